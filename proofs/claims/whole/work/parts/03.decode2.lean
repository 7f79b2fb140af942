theorem dX11_village_48 : decode cX11_village 48 = .ok (.iaload, 1) := by decide +kernel
theorem dX11_village_49 : decode cX11_village 49 = .ok (.ireturn, 1) := by decide +kernel
theorem dX11_village_50 : decode cX11_village 50 = .ok (.aload_n 0, 1) := by decide +kernel
theorem dX11_village_51 : decode cX11_village 51 = .ok (.getfield 33, 3) := by decide +kernel
theorem dX11_village_54 : decode cX11_village 54 = .ok (.getfield 134, 3) := by decide +kernel
theorem dX11_village_57 : decode cX11_village 57 = .ok (.iload_n 1, 1) := by decide +kernel
theorem dX11_village_58 : decode cX11_village 58 = .ok (.ishr, 1) := by decide +kernel
theorem dX11_village_59 : decode cX11_village 59 = .ok (.iconst 1, 1) := by decide +kernel
theorem dX11_village_60 : decode cX11_village 60 = .ok (.iand, 1) := by decide +kernel
theorem dX11_village_61 : decode cX11_village 61 = .ok (.ireturn, 1) := by decide +kernel
theorem dX11_village_62 : decode cX11_village 62 = .ok (.aload_n 0, 1) := by decide +kernel
theorem dX11_village_63 : decode cX11_village 63 = .ok (.getfield 19, 3) := by decide +kernel
theorem dX11_village_66 : decode cX11_village 66 = .ok (.iload_n 1, 1) := by decide +kernel
theorem dX11_village_67 : decode cX11_village 67 = .ok (.invokevirtual 137, 3) := by decide +kernel
theorem dX11_village_70 : decode cX11_village 70 = .ok (.ireturn, 1) := by decide +kernel
theorem dX11_village_71 : decode cX11_village 71 = .ok (.aload_n 0, 1) := by decide +kernel
theorem dX11_village_72 : decode cX11_village 72 = .ok (.getfield 33, 3) := by decide +kernel
theorem dX11_village_75 : decode cX11_village 75 = .ok (.getfield 141, 3) := by decide +kernel
theorem dX11_village_78 : decode cX11_village 78 = .ok (.iload_n 1, 1) := by decide +kernel
theorem dX11_village_79 : decode cX11_village 79 = .ok (.iaload, 1) := by decide +kernel
theorem dX11_village_80 : decode cX11_village 80 = .ok (.ireturn, 1) := by decide +kernel
theorem dX11_village_81 : decode cX11_village 81 = .ok (.iconst (-1), 1) := by decide +kernel
theorem dX11_village_82 : decode cX11_village 82 = .ok (.ireturn, 1) := by decide +kernel
theorem dX11_way_0 : decode cX11_way 0 = .ok (.aload_n 0, 1) := by decide +kernel
theorem dX11_way_1 : decode cX11_way 1 = .ok (.iload_n 1, 1) := by decide +kernel
theorem dX11_way_2 : decode cX11_way 2 = .ok (.invokevirtual 127, 3) := by decide +kernel
theorem dX11_way_5 : decode cX11_way 5 = .ok (.ifCond .eq 11, 3) := by decide +kernel
theorem dX11_way_8 : decode cX11_way 8 = .ok (.aload_n 0, 1) := by decide +kernel
theorem dX11_way_9 : decode cX11_way 9 = .ok (.iload_n 2, 1) := by decide +kernel
theorem dX11_way_10 : decode cX11_way 10 = .ok (.invokevirtual 127, 3) := by decide +kernel
theorem dX11_way_13 : decode cX11_way 13 = .ok (.ifCond .ne 5, 3) := by decide +kernel
theorem dX11_way_16 : decode cX11_way 16 = .ok (.iconst (-1), 1) := by decide +kernel
theorem dX11_way_17 : decode cX11_way 17 = .ok (.ireturn, 1) := by decide +kernel
theorem dX11_way_18 : decode cX11_way 18 = .ok (.aload_n 0, 1) := by decide +kernel
theorem dX11_way_19 : decode cX11_way 19 = .ok (.getfield 19, 3) := by decide +kernel
theorem dX11_way_22 : decode cX11_way 22 = .ok (.iload_n 1, 1) := by decide +kernel
theorem dX11_way_23 : decode cX11_way 23 = .ok (.iload_n 2, 1) := by decide +kernel
theorem dX11_way_24 : decode cX11_way 24 = .ok (.invokevirtual 144, 3) := by decide +kernel
theorem dX11_way_27 : decode cX11_way 27 = .ok (.istore_n 3, 1) := by decide +kernel
theorem dX11_way_28 : decode cX11_way 28 = .ok (.iload_n 3, 1) := by decide +kernel
theorem dX11_way_29 : decode cX11_way 29 = .ok (.ifCond .ne 8, 3) := by decide +kernel
theorem dX11_way_32 : decode cX11_way 32 = .ok (.bipush (-9), 2) := by decide +kernel
theorem dX11_way_34 : decode cX11_way 34 = .ok (.goto 4, 3) := by decide +kernel
theorem dX11_way_37 : decode cX11_way 37 = .ok (.iload_n 3, 1) := by decide +kernel
theorem dX11_way_38 : decode cX11_way 38 = .ok (.ireturn, 1) := by decide +kernel
theorem dX11_hears_0 : decode cX11_hears 0 = .ok (.aload_n 0, 1) := by decide +kernel
theorem dX11_hears_1 : decode cX11_hears 1 = .ok (.iload_n 1, 1) := by decide +kernel
theorem dX11_hears_2 : decode cX11_hears 2 = .ok (.invokevirtual 127, 3) := by decide +kernel
theorem dX11_hears_5 : decode cX11_hears 5 = .ok (.ifCond .eq 11, 3) := by decide +kernel
theorem dX11_hears_8 : decode cX11_hears 8 = .ok (.aload_n 0, 1) := by decide +kernel
theorem dX11_hears_9 : decode cX11_hears 9 = .ok (.iload_n 2, 1) := by decide +kernel
theorem dX11_hears_10 : decode cX11_hears 10 = .ok (.invokevirtual 127, 3) := by decide +kernel
theorem dX11_hears_13 : decode cX11_hears 13 = .ok (.ifCond .ne 5, 3) := by decide +kernel
theorem dX11_hears_16 : decode cX11_hears 16 = .ok (.iconst (-1), 1) := by decide +kernel
theorem dX11_hears_17 : decode cX11_hears 17 = .ok (.ireturn, 1) := by decide +kernel
theorem dX11_hears_18 : decode cX11_hears 18 = .ok (.aload_n 0, 1) := by decide +kernel
theorem dX11_hears_19 : decode cX11_hears 19 = .ok (.invokevirtual 148, 3) := by decide +kernel
theorem dX11_hears_22 : decode cX11_hears 22 = .ok (.aload_n 0, 1) := by decide +kernel
theorem dX11_hears_23 : decode cX11_hears 23 = .ok (.getfield 54, 3) := by decide +kernel
theorem dX11_hears_26 : decode cX11_hears 26 = .ok (.iload_n 2, 1) := by decide +kernel
theorem dX11_hears_27 : decode cX11_hears 27 = .ok (.iload_n 1, 1) := by decide +kernel
theorem dX11_hears_28 : decode cX11_hears 28 = .ok (.invokevirtual 151, 3) := by decide +kernel
theorem dX11_hears_31 : decode cX11_hears 31 = .ok (.istore_n 3, 1) := by decide +kernel
theorem dX11_hears_32 : decode cX11_hears 32 = .ok (.iload_n 3, 1) := by decide +kernel
theorem dX11_hears_33 : decode cX11_hears 33 = .ok (.ifCond .ne 8, 3) := by decide +kernel
theorem dX11_hears_36 : decode cX11_hears 36 = .ok (.bipush (-9), 2) := by decide +kernel
theorem dX11_hears_38 : decode cX11_hears 38 = .ok (.goto 4, 3) := by decide +kernel
theorem dX11_hears_41 : decode cX11_hears 41 = .ok (.iload_n 3, 1) := by decide +kernel
theorem dX11_hears_42 : decode cX11_hears 42 = .ok (.ireturn, 1) := by decide +kernel
theorem dX11_now_0 : decode cX11_now 0 = .ok (.iload_n 1, 1) := by decide +kernel
theorem dX11_now_1 : decode cX11_now 1 = .ok (.tableswitch 87 0 5 #[39, 47, 55, 63, 71, 79], 39) := by decide +kernel
theorem dX11_now_40 : decode cX11_now 40 = .ok (.aload_n 0, 1) := by decide +kernel
theorem dX11_now_41 : decode cX11_now 41 = .ok (.getfield 33, 3) := by decide +kernel
theorem dX11_now_44 : decode cX11_now 44 = .ok (.getfield 154, 3) := by decide +kernel
theorem dX11_now_47 : decode cX11_now 47 = .ok (.ireturn, 1) := by decide +kernel
theorem dX11_now_48 : decode cX11_now 48 = .ok (.aload_n 0, 1) := by decide +kernel
theorem dX11_now_49 : decode cX11_now 49 = .ok (.getfield 33, 3) := by decide +kernel
theorem dX11_now_52 : decode cX11_now 52 = .ok (.getfield 157, 3) := by decide +kernel
theorem dX11_now_55 : decode cX11_now 55 = .ok (.ireturn, 1) := by decide +kernel
theorem dX11_now_56 : decode cX11_now 56 = .ok (.aload_n 0, 1) := by decide +kernel
theorem dX11_now_57 : decode cX11_now 57 = .ok (.getfield 33, 3) := by decide +kernel
theorem dX11_now_60 : decode cX11_now 60 = .ok (.getfield 160, 3) := by decide +kernel
theorem dX11_now_63 : decode cX11_now 63 = .ok (.ireturn, 1) := by decide +kernel
theorem dX11_now_64 : decode cX11_now 64 = .ok (.aload_n 0, 1) := by decide +kernel
theorem dX11_now_65 : decode cX11_now 65 = .ok (.getfield 33, 3) := by decide +kernel
theorem dX11_now_68 : decode cX11_now 68 = .ok (.getfield 161, 3) := by decide +kernel
theorem dX11_now_71 : decode cX11_now 71 = .ok (.ireturn, 1) := by decide +kernel
theorem dX11_now_72 : decode cX11_now 72 = .ok (.aload_n 0, 1) := by decide +kernel
theorem dX11_now_73 : decode cX11_now 73 = .ok (.getfield 33, 3) := by decide +kernel
theorem dX11_now_76 : decode cX11_now 76 = .ok (.getfield 164, 3) := by decide +kernel
theorem dX11_now_79 : decode cX11_now 79 = .ok (.ireturn, 1) := by decide +kernel
theorem dX11_now_80 : decode cX11_now 80 = .ok (.aload_n 0, 1) := by decide +kernel
theorem dX11_now_81 : decode cX11_now 81 = .ok (.getfield 39, 3) := by decide +kernel
theorem dX11_now_84 : decode cX11_now 84 = .ok (.getfield 167, 3) := by decide +kernel
theorem dX11_now_87 : decode cX11_now 87 = .ok (.ireturn, 1) := by decide +kernel
theorem dX11_now_88 : decode cX11_now 88 = .ok (.iconst (-1), 1) := by decide +kernel
theorem dX11_now_89 : decode cX11_now 89 = .ok (.ireturn, 1) := by decide +kernel
theorem dX11_strikes_0 : decode cX11_strikes 0 = .ok (.aload_n 0, 1) := by decide +kernel
theorem dX11_strikes_1 : decode cX11_strikes 1 = .ok (.getfield 19, 3) := by decide +kernel
theorem dX11_strikes_4 : decode cX11_strikes 4 = .ok (.getfield 170, 3) := by decide +kernel
theorem dX11_strikes_7 : decode cX11_strikes 7 = .ok (.ifCond .eq 16, 3) := by decide +kernel
theorem dX11_strikes_10 : decode cX11_strikes 10 = .ok (.aload_n 0, 1) := by decide +kernel
theorem dX11_strikes_11 : decode cX11_strikes 11 = .ok (.getfield 33, 3) := by decide +kernel
theorem dX11_strikes_14 : decode cX11_strikes 14 = .ok (.getfield 154, 3) := by decide +kernel
theorem dX11_strikes_17 : decode cX11_strikes 17 = .ok (.sipush 9999, 3) := by decide +kernel
theorem dX11_strikes_20 : decode cX11_strikes 20 = .ok (.if_icmp .lt 6, 3) := by decide +kernel
theorem dX11_strikes_23 : decode cX11_strikes 23 = .ok (.bipush (-2), 2) := by decide +kernel
theorem dX11_strikes_25 : decode cX11_strikes 25 = .ok (.ireturn, 1) := by decide +kernel
theorem dX11_strikes_26 : decode cX11_strikes 26 = .ok (.aload_n 0, 1) := by decide +kernel
theorem dX11_strikes_27 : decode cX11_strikes 27 = .ok (.invokevirtual 148, 3) := by decide +kernel
theorem dX11_strikes_30 : decode cX11_strikes 30 = .ok (.aload_n 0, 1) := by decide +kernel
theorem dX11_strikes_31 : decode cX11_strikes 31 = .ok (.getfield 54, 3) := by decide +kernel
theorem dX11_strikes_34 : decode cX11_strikes 34 = .ok (.getfield 173, 3) := by decide +kernel
theorem dX11_strikes_37 : decode cX11_strikes 37 = .ok (.aload_n 0, 1) := by decide +kernel
theorem dX11_strikes_38 : decode cX11_strikes 38 = .ok (.getfield 33, 3) := by decide +kernel
theorem dX11_strikes_41 : decode cX11_strikes 41 = .ok (.getfield 160, 3) := by decide +kernel
theorem dX11_strikes_44 : decode cX11_strikes 44 = .ok (.iaload, 1) := by decide +kernel
theorem dX11_strikes_45 : decode cX11_strikes 45 = .ok (.istore_n 1, 1) := by decide +kernel
theorem dX11_strikes_46 : decode cX11_strikes 46 = .ok (.iload_n 1, 1) := by decide +kernel
theorem dX11_strikes_47 : decode cX11_strikes 47 = .ok (.iconst (-1), 1) := by decide +kernel
theorem dX11_strikes_48 : decode cX11_strikes 48 = .ok (.if_icmp .ne 6, 3) := by decide +kernel
theorem dX11_strikes_51 : decode cX11_strikes 51 = .ok (.bipush (-2), 2) := by decide +kernel
theorem dX11_strikes_53 : decode cX11_strikes 53 = .ok (.ireturn, 1) := by decide +kernel
theorem dX11_strikes_54 : decode cX11_strikes 54 = .ok (.aload_n 0, 1) := by decide +kernel
theorem dX11_strikes_55 : decode cX11_strikes 55 = .ok (.getfield 39, 3) := by decide +kernel
theorem dX11_strikes_58 : decode cX11_strikes 58 = .ok (.aload_n 0, 1) := by decide +kernel
theorem dX11_strikes_59 : decode cX11_strikes 59 = .ok (.getfield 33, 3) := by decide +kernel
theorem dX11_strikes_62 : decode cX11_strikes 62 = .ok (.invokevirtual 176, 3) := by decide +kernel
theorem dX11_strikes_65 : decode cX11_strikes 65 = .ok (.aload_n 0, 1) := by decide +kernel
theorem dX11_strikes_66 : decode cX11_strikes 66 = .ok (.getfield 33, 3) := by decide +kernel
theorem dX11_strikes_69 : decode cX11_strikes 69 = .ok (.iload_n 1, 1) := by decide +kernel
theorem dX11_strikes_70 : decode cX11_strikes 70 = .ok (.aload_n 0, 1) := by decide +kernel
theorem dX11_strikes_71 : decode cX11_strikes 71 = .ok (.getfield 33, 3) := by decide +kernel
theorem dX11_strikes_74 : decode cX11_strikes 74 = .ok (.getfield 157, 3) := by decide +kernel
theorem dX11_strikes_77 : decode cX11_strikes 77 = .ok (.aload_n 0, 1) := by decide +kernel
theorem dX11_strikes_78 : decode cX11_strikes 78 = .ok (.getfield 54, 3) := by decide +kernel
theorem dX11_strikes_81 : decode cX11_strikes 81 = .ok (.getfield 180, 3) := by decide +kernel
theorem dX11_strikes_84 : decode cX11_strikes 84 = .ok (.aload_n 0, 1) := by decide +kernel
theorem dX11_strikes_85 : decode cX11_strikes 85 = .ok (.getfield 33, 3) := by decide +kernel
theorem dX11_strikes_88 : decode cX11_strikes 88 = .ok (.getfield 160, 3) := by decide +kernel
theorem dX11_strikes_91 : decode cX11_strikes 91 = .ok (.iaload, 1) := by decide +kernel
theorem dX11_strikes_92 : decode cX11_strikes 92 = .ok (.iadd, 1) := by decide +kernel
theorem dX11_strikes_93 : decode cX11_strikes 93 = .ok (.invokevirtual 183, 3) := by decide +kernel
theorem dX11_strikes_96 : decode cX11_strikes 96 = .ok (.iload_n 1, 1) := by decide +kernel
theorem dX11_strikes_97 : decode cX11_strikes 97 = .ok (.ireturn, 1) := by decide +kernel
theorem dX11_fog_0 : decode cX11_fog 0 = .ok (.iload_n 1, 1) := by decide +kernel
theorem dX11_fog_1 : decode cX11_fog 1 = .ok (.iconst 0, 1) := by decide +kernel
theorem dX11_fog_2 : decode cX11_fog 2 = .ok (.iconst 1, 1) := by decide +kernel
theorem dX11_fog_3 : decode cX11_fog 3 = .ok (.invokestatic 106, 3) := by decide +kernel
theorem dX11_fog_6 : decode cX11_fog 6 = .ok (.ifCond .ne 5, 3) := by decide +kernel
theorem dX11_fog_9 : decode cX11_fog 9 = .ok (.iconst (-1), 1) := by decide +kernel
theorem dX11_fog_10 : decode cX11_fog 10 = .ok (.ireturn, 1) := by decide +kernel
theorem dX11_fog_11 : decode cX11_fog 11 = .ok (.aload_n 0, 1) := by decide +kernel
theorem dX11_fog_12 : decode cX11_fog 12 = .ok (.getfield 39, 3) := by decide +kernel
theorem dX11_fog_15 : decode cX11_fog 15 = .ok (.aload_n 0, 1) := by decide +kernel
theorem dX11_fog_16 : decode cX11_fog 16 = .ok (.getfield 33, 3) := by decide +kernel
theorem dX11_fog_19 : decode cX11_fog 19 = .ok (.invokevirtual 176, 3) := by decide +kernel
theorem dX11_fog_22 : decode cX11_fog 22 = .ok (.aload_n 0, 1) := by decide +kernel
theorem dX11_fog_23 : decode cX11_fog 23 = .ok (.getfield 33, 3) := by decide +kernel
theorem dX11_fog_26 : decode cX11_fog 26 = .ok (.getfield 161, 3) := by decide +kernel
theorem dX11_fog_29 : decode cX11_fog 29 = .ok (.istore_n 2, 1) := by decide +kernel
theorem dX11_fog_30 : decode cX11_fog 30 = .ok (.aload_n 0, 1) := by decide +kernel
theorem dX11_fog_31 : decode cX11_fog 31 = .ok (.getfield 33, 3) := by decide +kernel
theorem dX11_fog_34 : decode cX11_fog 34 = .ok (.iload_n 1, 1) := by decide +kernel
theorem dX11_fog_35 : decode cX11_fog 35 = .ok (.putfield 161, 3) := by decide +kernel
theorem dX11_fog_38 : decode cX11_fog 38 = .ok (.iload_n 2, 1) := by decide +kernel
theorem dX11_fog_39 : decode cX11_fog 39 = .ok (.ireturn, 1) := by decide +kernel
theorem dX11_cold_0 : decode cX11_cold 0 = .ok (.aload_n 0, 1) := by decide +kernel
theorem dX11_cold_1 : decode cX11_cold 1 = .ok (.iload_n 1, 1) := by decide +kernel
theorem dX11_cold_2 : decode cX11_cold 2 = .ok (.invokevirtual 127, 3) := by decide +kernel
theorem dX11_cold_5 : decode cX11_cold 5 = .ok (.ifCond .eq 13, 3) := by decide +kernel
theorem dX11_cold_8 : decode cX11_cold 8 = .ok (.iload_n 2, 1) := by decide +kernel
theorem dX11_cold_9 : decode cX11_cold 9 = .ok (.iconst 0, 1) := by decide +kernel
theorem dX11_cold_10 : decode cX11_cold 10 = .ok (.bipush 9, 2) := by decide +kernel
theorem dX11_cold_12 : decode cX11_cold 12 = .ok (.invokestatic 106, 3) := by decide +kernel
theorem dX11_cold_15 : decode cX11_cold 15 = .ok (.ifCond .ne 5, 3) := by decide +kernel
theorem dX11_cold_18 : decode cX11_cold 18 = .ok (.iconst (-1), 1) := by decide +kernel
theorem dX11_cold_19 : decode cX11_cold 19 = .ok (.ireturn, 1) := by decide +kernel
theorem dX11_cold_20 : decode cX11_cold 20 = .ok (.aload_n 0, 1) := by decide +kernel
theorem dX11_cold_21 : decode cX11_cold 21 = .ok (.getfield 39, 3) := by decide +kernel
theorem dX11_cold_24 : decode cX11_cold 24 = .ok (.aload_n 0, 1) := by decide +kernel
theorem dX11_cold_25 : decode cX11_cold 25 = .ok (.getfield 33, 3) := by decide +kernel
theorem dX11_cold_28 : decode cX11_cold 28 = .ok (.invokevirtual 176, 3) := by decide +kernel
theorem dX11_cold_31 : decode cX11_cold 31 = .ok (.aload_n 0, 1) := by decide +kernel
theorem dX11_cold_32 : decode cX11_cold 32 = .ok (.getfield 33, 3) := by decide +kernel
theorem dX11_cold_35 : decode cX11_cold 35 = .ok (.getfield 131, 3) := by decide +kernel
theorem dX11_cold_38 : decode cX11_cold 38 = .ok (.iload_n 1, 1) := by decide +kernel
theorem dX11_cold_39 : decode cX11_cold 39 = .ok (.iaload, 1) := by decide +kernel
theorem dX11_cold_40 : decode cX11_cold 40 = .ok (.istore_n 3, 1) := by decide +kernel
theorem dX11_cold_41 : decode cX11_cold 41 = .ok (.aload_n 0, 1) := by decide +kernel
theorem dX11_cold_42 : decode cX11_cold 42 = .ok (.getfield 33, 3) := by decide +kernel
theorem dX11_cold_45 : decode cX11_cold 45 = .ok (.getfield 131, 3) := by decide +kernel
theorem dX11_cold_48 : decode cX11_cold 48 = .ok (.iload_n 1, 1) := by decide +kernel
theorem dX11_cold_49 : decode cX11_cold 49 = .ok (.iload_n 2, 1) := by decide +kernel
theorem dX11_cold_50 : decode cX11_cold 50 = .ok (.iastore, 1) := by decide +kernel
theorem dX11_cold_51 : decode cX11_cold 51 = .ok (.iload_n 3, 1) := by decide +kernel
theorem dX11_cold_52 : decode cX11_cold 52 = .ok (.ireturn, 1) := by decide +kernel
theorem dX11_deafens_0 : decode cX11_deafens 0 = .ok (.aload_n 0, 1) := by decide +kernel
theorem dX11_deafens_1 : decode cX11_deafens 1 = .ok (.iload_n 1, 1) := by decide +kernel
theorem dX11_deafens_2 : decode cX11_deafens 2 = .ok (.invokevirtual 127, 3) := by decide +kernel
theorem dX11_deafens_5 : decode cX11_deafens 5 = .ok (.ifCond .eq 12, 3) := by decide +kernel
theorem dX11_deafens_8 : decode cX11_deafens 8 = .ok (.iload_n 2, 1) := by decide +kernel
theorem dX11_deafens_9 : decode cX11_deafens 9 = .ok (.iconst 0, 1) := by decide +kernel
theorem dX11_deafens_10 : decode cX11_deafens 10 = .ok (.iconst 1, 1) := by decide +kernel
theorem dX11_deafens_11 : decode cX11_deafens 11 = .ok (.invokestatic 106, 3) := by decide +kernel
theorem dX11_deafens_14 : decode cX11_deafens 14 = .ok (.ifCond .ne 5, 3) := by decide +kernel
theorem dX11_deafens_17 : decode cX11_deafens 17 = .ok (.iconst (-1), 1) := by decide +kernel
theorem dX11_deafens_18 : decode cX11_deafens 18 = .ok (.ireturn, 1) := by decide +kernel
theorem dX11_deafens_19 : decode cX11_deafens 19 = .ok (.aload_n 0, 1) := by decide +kernel
theorem dX11_deafens_20 : decode cX11_deafens 20 = .ok (.getfield 39, 3) := by decide +kernel
theorem dX11_deafens_23 : decode cX11_deafens 23 = .ok (.aload_n 0, 1) := by decide +kernel
theorem dX11_deafens_24 : decode cX11_deafens 24 = .ok (.getfield 33, 3) := by decide +kernel
theorem dX11_deafens_27 : decode cX11_deafens 27 = .ok (.invokevirtual 176, 3) := by decide +kernel
theorem dX11_deafens_30 : decode cX11_deafens 30 = .ok (.aload_n 0, 1) := by decide +kernel
theorem dX11_deafens_31 : decode cX11_deafens 31 = .ok (.getfield 33, 3) := by decide +kernel
theorem dX11_deafens_34 : decode cX11_deafens 34 = .ok (.getfield 134, 3) := by decide +kernel
theorem dX11_deafens_37 : decode cX11_deafens 37 = .ok (.iload_n 1, 1) := by decide +kernel
theorem dX11_deafens_38 : decode cX11_deafens 38 = .ok (.ishr, 1) := by decide +kernel
theorem dX11_deafens_39 : decode cX11_deafens 39 = .ok (.iconst 1, 1) := by decide +kernel
theorem dX11_deafens_40 : decode cX11_deafens 40 = .ok (.iand, 1) := by decide +kernel
theorem dX11_deafens_41 : decode cX11_deafens 41 = .ok (.istore_n 3, 1) := by decide +kernel
theorem dX11_deafens_42 : decode cX11_deafens 42 = .ok (.aload_n 0, 1) := by decide +kernel
theorem dX11_deafens_43 : decode cX11_deafens 43 = .ok (.getfield 33, 3) := by decide +kernel
theorem dX11_deafens_46 : decode cX11_deafens 46 = .ok (.aload_n 0, 1) := by decide +kernel
theorem dX11_deafens_47 : decode cX11_deafens 47 = .ok (.getfield 33, 3) := by decide +kernel
theorem dX11_deafens_50 : decode cX11_deafens 50 = .ok (.getfield 134, 3) := by decide +kernel
theorem dX11_deafens_53 : decode cX11_deafens 53 = .ok (.iconst 1, 1) := by decide +kernel
theorem dX11_deafens_54 : decode cX11_deafens 54 = .ok (.iload_n 1, 1) := by decide +kernel
theorem dX11_deafens_55 : decode cX11_deafens 55 = .ok (.ishl, 1) := by decide +kernel
theorem dX11_deafens_56 : decode cX11_deafens 56 = .ok (.iconst (-1), 1) := by decide +kernel
theorem dX11_deafens_57 : decode cX11_deafens 57 = .ok (.ixor, 1) := by decide +kernel
theorem dX11_deafens_58 : decode cX11_deafens 58 = .ok (.iand, 1) := by decide +kernel
theorem dX11_deafens_59 : decode cX11_deafens 59 = .ok (.iload_n 2, 1) := by decide +kernel
theorem dX11_deafens_60 : decode cX11_deafens 60 = .ok (.iload_n 1, 1) := by decide +kernel
theorem dX11_deafens_61 : decode cX11_deafens 61 = .ok (.ishl, 1) := by decide +kernel
theorem dX11_deafens_62 : decode cX11_deafens 62 = .ok (.ior, 1) := by decide +kernel
theorem dX11_deafens_63 : decode cX11_deafens 63 = .ok (.putfield 134, 3) := by decide +kernel
theorem dX11_deafens_66 : decode cX11_deafens 66 = .ok (.iload_n 3, 1) := by decide +kernel
theorem dX11_deafens_67 : decode cX11_deafens 67 = .ok (.ireturn, 1) := by decide +kernel
theorem dX11_sends_0 : decode cX11_sends 0 = .ok (.aload_n 0, 1) := by decide +kernel
theorem dX11_sends_1 : decode cX11_sends 1 = .ok (.iload_n 1, 1) := by decide +kernel
theorem dX11_sends_2 : decode cX11_sends 2 = .ok (.invokevirtual 127, 3) := by decide +kernel
theorem dX11_sends_5 : decode cX11_sends 5 = .ok (.ifCond .eq 26, 3) := by decide +kernel
theorem dX11_sends_8 : decode cX11_sends 8 = .ok (.aload_n 0, 1) := by decide +kernel
theorem dX11_sends_9 : decode cX11_sends 9 = .ok (.iload_n 2, 1) := by decide +kernel
theorem dX11_sends_10 : decode cX11_sends 10 = .ok (.invokevirtual 127, 3) := by decide +kernel
theorem dX11_sends_13 : decode cX11_sends 13 = .ok (.ifCond .eq 18, 3) := by decide +kernel
theorem dX11_sends_16 : decode cX11_sends 16 = .ok (.iload_n 1, 1) := by decide +kernel
theorem dX11_sends_17 : decode cX11_sends 17 = .ok (.iload_n 2, 1) := by decide +kernel
theorem dX11_sends_18 : decode cX11_sends 18 = .ok (.if_icmp .eq 13, 3) := by decide +kernel
theorem dX11_sends_21 : decode cX11_sends 21 = .ok (.iload_n 3, 1) := by decide +kernel
theorem dX11_sends_22 : decode cX11_sends 22 = .ok (.iconst 1, 1) := by decide +kernel
theorem dX11_sends_23 : decode cX11_sends 23 = .ok (.bipush 20, 2) := by decide +kernel
theorem dX11_sends_25 : decode cX11_sends 25 = .ok (.invokestatic 106, 3) := by decide +kernel
theorem dX11_sends_28 : decode cX11_sends 28 = .ok (.ifCond .ne 5, 3) := by decide +kernel
theorem dX11_sends_31 : decode cX11_sends 31 = .ok (.iconst (-1), 1) := by decide +kernel
theorem dX11_sends_32 : decode cX11_sends 32 = .ok (.ireturn, 1) := by decide +kernel
theorem dX11_sends_33 : decode cX11_sends 33 = .ok (.aload_n 0, 1) := by decide +kernel
theorem dX11_sends_34 : decode cX11_sends 34 = .ok (.getfield 33, 3) := by decide +kernel
theorem dX11_sends_37 : decode cX11_sends 37 = .ok (.getfield 164, 3) := by decide +kernel
theorem dX11_sends_40 : decode cX11_sends 40 = .ok (.iconst 2, 1) := by decide +kernel
theorem dX11_sends_41 : decode cX11_sends 41 = .ok (.if_icmp .lt 6, 3) := by decide +kernel
theorem dX11_sends_44 : decode cX11_sends 44 = .ok (.bipush (-3), 2) := by decide +kernel
theorem dX11_sends_46 : decode cX11_sends 46 = .ok (.ireturn, 1) := by decide +kernel
theorem dX11_sends_47 : decode cX11_sends 47 = .ok (.aload_n 0, 1) := by decide +kernel
theorem dX11_sends_48 : decode cX11_sends 48 = .ok (.getfield 39, 3) := by decide +kernel
theorem dX11_sends_51 : decode cX11_sends 51 = .ok (.aload_n 0, 1) := by decide +kernel
theorem dX11_sends_52 : decode cX11_sends 52 = .ok (.getfield 33, 3) := by decide +kernel
theorem dX11_sends_55 : decode cX11_sends 55 = .ok (.invokevirtual 176, 3) := by decide +kernel
theorem dX11_sends_58 : decode cX11_sends 58 = .ok (.aload_n 0, 1) := by decide +kernel
theorem dX11_sends_59 : decode cX11_sends 59 = .ok (.getfield 33, 3) := by decide +kernel
theorem dX11_sends_62 : decode cX11_sends 62 = .ok (.iload_n 1, 1) := by decide +kernel
theorem dX11_sends_63 : decode cX11_sends 63 = .ok (.iload_n 2, 1) := by decide +kernel
theorem dX11_sends_64 : decode cX11_sends 64 = .ok (.iload_n 3, 1) := by decide +kernel
theorem dX11_sends_65 : decode cX11_sends 65 = .ok (.invokevirtual 187, 3) := by decide +kernel
theorem dX11_sends_68 : decode cX11_sends 68 = .ok (.aload_n 0, 1) := by decide +kernel
theorem dX11_sends_69 : decode cX11_sends 69 = .ok (.getfield 33, 3) := by decide +kernel
theorem dX11_sends_72 : decode cX11_sends 72 = .ok (.getfield 164, 3) := by decide +kernel
theorem dX11_sends_75 : decode cX11_sends 75 = .ok (.ireturn, 1) := by decide +kernel
theorem dX11_undo_0 : decode cX11_undo 0 = .ok (.aload_n 0, 1) := by decide +kernel
theorem dX11_undo_1 : decode cX11_undo 1 = .ok (.getfield 39, 3) := by decide +kernel
theorem dX11_undo_4 : decode cX11_undo 4 = .ok (.getfield 167, 3) := by decide +kernel
theorem dX11_undo_7 : decode cX11_undo 7 = .ok (.ifCond .ne 6, 3) := by decide +kernel
theorem dX11_undo_10 : decode cX11_undo 10 = .ok (.bipush (-2), 2) := by decide +kernel
theorem dX11_undo_12 : decode cX11_undo 12 = .ok (.ireturn, 1) := by decide +kernel
theorem dX11_undo_13 : decode cX11_undo 13 = .ok (.aload_n 0, 1) := by decide +kernel
theorem dX11_undo_14 : decode cX11_undo 14 = .ok (.getfield 39, 3) := by decide +kernel
theorem dX11_undo_17 : decode cX11_undo 17 = .ok (.aload_n 0, 1) := by decide +kernel
theorem dX11_undo_18 : decode cX11_undo 18 = .ok (.getfield 33, 3) := by decide +kernel
theorem dX11_undo_21 : decode cX11_undo 21 = .ok (.invokevirtual 191, 3) := by decide +kernel
theorem dX11_undo_24 : decode cX11_undo 24 = .ok (.aload_n 0, 1) := by decide +kernel
theorem dX11_undo_25 : decode cX11_undo 25 = .ok (.getfield 39, 3) := by decide +kernel
theorem dX11_undo_28 : decode cX11_undo 28 = .ok (.getfield 167, 3) := by decide +kernel
theorem dX11_undo_31 : decode cX11_undo 31 = .ok (.ireturn, 1) := by decide +kernel
theorem dX11_inStrokes_0 : decode cX11_inStrokes 0 = .ok (.iload_n 1, 1) := by decide +kernel
theorem dX11_inStrokes_1 : decode cX11_inStrokes 1 = .ok (.iconst 0, 1) := by decide +kernel
theorem dX11_inStrokes_2 : decode cX11_inStrokes 2 = .ok (.bipush 60, 2) := by decide +kernel
theorem dX11_inStrokes_4 : decode cX11_inStrokes 4 = .ok (.invokestatic 106, 3) := by decide +kernel
theorem dX11_inStrokes_7 : decode cX11_inStrokes 7 = .ok (.ifCond .eq 12, 3) := by decide +kernel
theorem dX11_inStrokes_10 : decode cX11_inStrokes 10 = .ok (.iload_n 2, 1) := by decide +kernel
theorem dX11_inStrokes_11 : decode cX11_inStrokes 11 = .ok (.iconst 0, 1) := by decide +kernel
theorem dX11_inStrokes_12 : decode cX11_inStrokes 12 = .ok (.iconst 1, 1) := by decide +kernel
theorem dX11_inStrokes_13 : decode cX11_inStrokes 13 = .ok (.invokestatic 106, 3) := by decide +kernel
theorem dX11_inStrokes_16 : decode cX11_inStrokes 16 = .ok (.ifCond .ne 5, 3) := by decide +kernel
theorem dX11_inStrokes_19 : decode cX11_inStrokes 19 = .ok (.iconst (-1), 1) := by decide +kernel
theorem dX11_inStrokes_20 : decode cX11_inStrokes 20 = .ok (.ireturn, 1) := by decide +kernel
theorem dX11_inStrokes_21 : decode cX11_inStrokes 21 = .ok (.aload_n 0, 1) := by decide +kernel
theorem dX11_inStrokes_22 : decode cX11_inStrokes 22 = .ok (.getfield 19, 3) := by decide +kernel
theorem dX11_inStrokes_25 : decode cX11_inStrokes 25 = .ok (.getfield 170, 3) := by decide +kernel
theorem dX11_inStrokes_28 : decode cX11_inStrokes 28 = .ok (.ifCond .ne 6, 3) := by decide +kernel
theorem dX11_inStrokes_31 : decode cX11_inStrokes 31 = .ok (.bipush (-9), 2) := by decide +kernel
theorem dX11_inStrokes_33 : decode cX11_inStrokes 33 = .ok (.ireturn, 1) := by decide +kernel
theorem dX11_inStrokes_34 : decode cX11_inStrokes 34 = .ok (.aload_n 0, 1) := by decide +kernel
theorem dX11_inStrokes_35 : decode cX11_inStrokes 35 = .ok (.invokevirtual 148, 3) := by decide +kernel
theorem dX11_inStrokes_38 : decode cX11_inStrokes 38 = .ok (.aload_n 0, 1) := by decide +kernel
theorem dX11_inStrokes_39 : decode cX11_inStrokes 39 = .ok (.getfield 33, 3) := by decide +kernel
theorem dX11_inStrokes_42 : decode cX11_inStrokes 42 = .ok (.getfield 160, 3) := by decide +kernel
theorem dX11_inStrokes_45 : decode cX11_inStrokes 45 = .ok (.istore_n 3, 1) := by decide +kernel
theorem dX11_inStrokes_46 : decode cX11_inStrokes 46 = .ok (.aload_n 0, 1) := by decide +kernel
theorem dX11_inStrokes_47 : decode cX11_inStrokes 47 = .ok (.getfield 33, 3) := by decide +kernel
theorem dX11_inStrokes_50 : decode cX11_inStrokes 50 = .ok (.getfield 157, 3) := by decide +kernel
theorem dX11_inStrokes_53 : decode cX11_inStrokes 53 = .ok (.istore 4, 2) := by decide +kernel
theorem dX11_inStrokes_55 : decode cX11_inStrokes 55 = .ok (.iconst 0, 1) := by decide +kernel
theorem dX11_inStrokes_56 : decode cX11_inStrokes 56 = .ok (.istore 5, 2) := by decide +kernel
theorem dX11_inStrokes_58 : decode cX11_inStrokes 58 = .ok (.iload 5, 2) := by decide +kernel
theorem dX11_inStrokes_60 : decode cX11_inStrokes 60 = .ok (.iload_n 1, 1) := by decide +kernel
theorem dX11_inStrokes_61 : decode cX11_inStrokes 61 = .ok (.if_icmp .ge 46, 3) := by decide +kernel
theorem dX11_inStrokes_64 : decode cX11_inStrokes 64 = .ok (.aload_n 0, 1) := by decide +kernel
theorem dX11_inStrokes_65 : decode cX11_inStrokes 65 = .ok (.getfield 54, 3) := by decide +kernel
theorem dX11_inStrokes_68 : decode cX11_inStrokes 68 = .ok (.getfield 173, 3) := by decide +kernel
theorem dX11_inStrokes_71 : decode cX11_inStrokes 71 = .ok (.iload_n 3, 1) := by decide +kernel
theorem dX11_inStrokes_72 : decode cX11_inStrokes 72 = .ok (.iaload, 1) := by decide +kernel
theorem dX11_inStrokes_73 : decode cX11_inStrokes 73 = .ok (.istore 6, 2) := by decide +kernel
theorem dX11_inStrokes_75 : decode cX11_inStrokes 75 = .ok (.iload 6, 2) := by decide +kernel
theorem dX11_inStrokes_77 : decode cX11_inStrokes 77 = .ok (.iconst (-1), 1) := by decide +kernel
theorem dX11_inStrokes_78 : decode cX11_inStrokes 78 = .ok (.if_icmp .ne 6, 3) := by decide +kernel
theorem dX11_inStrokes_81 : decode cX11_inStrokes 81 = .ok (.bipush (-9), 2) := by decide +kernel
theorem dX11_inStrokes_83 : decode cX11_inStrokes 83 = .ok (.ireturn, 1) := by decide +kernel
theorem dX11_inStrokes_84 : decode cX11_inStrokes 84 = .ok (.iload 4, 2) := by decide +kernel
theorem dX11_inStrokes_86 : decode cX11_inStrokes 86 = .ok (.aload_n 0, 1) := by decide +kernel
theorem dX11_inStrokes_87 : decode cX11_inStrokes 87 = .ok (.getfield 54, 3) := by decide +kernel
theorem dX11_inStrokes_90 : decode cX11_inStrokes 90 = .ok (.getfield 180, 3) := by decide +kernel
theorem dX11_inStrokes_93 : decode cX11_inStrokes 93 = .ok (.iload_n 3, 1) := by decide +kernel
theorem dX11_inStrokes_94 : decode cX11_inStrokes 94 = .ok (.iaload, 1) := by decide +kernel
theorem dX11_inStrokes_95 : decode cX11_inStrokes 95 = .ok (.iadd, 1) := by decide +kernel
theorem dX11_inStrokes_96 : decode cX11_inStrokes 96 = .ok (.istore 4, 2) := by decide +kernel
theorem dX11_inStrokes_98 : decode cX11_inStrokes 98 = .ok (.iload 6, 2) := by decide +kernel
theorem dX11_inStrokes_100 : decode cX11_inStrokes 100 = .ok (.istore_n 3, 1) := by decide +kernel
theorem dX11_inStrokes_101 : decode cX11_inStrokes 101 = .ok (.iinc 5 1, 3) := by decide +kernel
theorem dX11_inStrokes_104 : decode cX11_inStrokes 104 = .ok (.goto (-46), 3) := by decide +kernel
theorem dX11_inStrokes_107 : decode cX11_inStrokes 107 = .ok (.iload_n 2, 1) := by decide +kernel
theorem dX11_inStrokes_108 : decode cX11_inStrokes 108 = .ok (.ifCond .ne 7, 3) := by decide +kernel
theorem dX11_inStrokes_111 : decode cX11_inStrokes 111 = .ok (.iload_n 3, 1) := by decide +kernel
theorem dX11_inStrokes_112 : decode cX11_inStrokes 112 = .ok (.goto 5, 3) := by decide +kernel
theorem dX11_inStrokes_115 : decode cX11_inStrokes 115 = .ok (.iload 4, 2) := by decide +kernel
theorem dX11_inStrokes_117 : decode cX11_inStrokes 117 = .ok (.ireturn, 1) := by decide +kernel
theorem dX11_ends_0 : decode cX11_ends 0 = .ok (.aload_n 0, 1) := by decide +kernel
theorem dX11_ends_1 : decode cX11_ends 1 = .ok (.invokevirtual 148, 3) := by decide +kernel
theorem dX11_ends_4 : decode cX11_ends 4 = .ok (.aload_n 0, 1) := by decide +kernel
theorem dX11_ends_5 : decode cX11_ends 5 = .ok (.getfield 54, 3) := by decide +kernel
theorem dX11_ends_8 : decode cX11_ends 8 = .ok (.aload_n 0, 1) := by decide +kernel
theorem dX11_ends_9 : decode cX11_ends 9 = .ok (.getfield 33, 3) := by decide +kernel
theorem dX11_ends_12 : decode cX11_ends 12 = .ok (.getfield 160, 3) := by decide +kernel
theorem dX11_ends_15 : decode cX11_ends 15 = .ok (.invokevirtual 194, 3) := by decide +kernel
theorem dX11_ends_18 : decode cX11_ends 18 = .ok (.ifCond .eq 8, 3) := by decide +kernel
theorem dX11_ends_21 : decode cX11_ends 21 = .ok (.bipush (-9), 2) := by decide +kernel
theorem dX11_ends_23 : decode cX11_ends 23 = .ok (.goto 10, 3) := by decide +kernel
theorem dX11_ends_26 : decode cX11_ends 26 = .ok (.aload_n 0, 1) := by decide +kernel
theorem dX11_ends_27 : decode cX11_ends 27 = .ok (.getfield 54, 3) := by decide +kernel
theorem dX11_ends_30 : decode cX11_ends 30 = .ok (.getfield 197, 3) := by decide +kernel
theorem dX11_ends_33 : decode cX11_ends 33 = .ok (.ireturn, 1) := by decide +kernel
theorem dX11_round_0 : decode cX11_round 0 = .ok (.iload_n 1, 1) := by decide +kernel
theorem dX11_round_1 : decode cX11_round 1 = .ok (.iconst 0, 1) := by decide +kernel
theorem dX11_round_2 : decode cX11_round 2 = .ok (.iconst 2, 1) := by decide +kernel
theorem dX11_round_3 : decode cX11_round 3 = .ok (.invokestatic 106, 3) := by decide +kernel
theorem dX11_round_6 : decode cX11_round 6 = .ok (.ifCond .ne 5, 3) := by decide +kernel
theorem dX11_round_9 : decode cX11_round 9 = .ok (.iconst (-1), 1) := by decide +kernel
theorem dX11_round_10 : decode cX11_round 10 = .ok (.ireturn, 1) := by decide +kernel
theorem dX11_round_11 : decode cX11_round 11 = .ok (.aload_n 0, 1) := by decide +kernel
theorem dX11_round_12 : decode cX11_round 12 = .ok (.invokevirtual 148, 3) := by decide +kernel
theorem dX11_round_15 : decode cX11_round 15 = .ok (.aload_n 0, 1) := by decide +kernel
theorem dX11_round_16 : decode cX11_round 16 = .ok (.getfield 54, 3) := by decide +kernel
theorem dX11_round_19 : decode cX11_round 19 = .ok (.aload_n 0, 1) := by decide +kernel
theorem dX11_round_20 : decode cX11_round 20 = .ok (.getfield 33, 3) := by decide +kernel
theorem dX11_round_23 : decode cX11_round 23 = .ok (.getfield 160, 3) := by decide +kernel
theorem dX11_round_26 : decode cX11_round 26 = .ok (.invokevirtual 194, 3) := by decide +kernel
theorem dX11_round_29 : decode cX11_round 29 = .ok (.ifCond .ne 6, 3) := by decide +kernel
theorem dX11_round_32 : decode cX11_round 32 = .ok (.bipush (-9), 2) := by decide +kernel
theorem dX11_round_34 : decode cX11_round 34 = .ok (.ireturn, 1) := by decide +kernel
theorem dX11_round_35 : decode cX11_round 35 = .ok (.iload_n 1, 1) := by decide +kernel
theorem dX11_round_36 : decode cX11_round 36 = .ok (.ifCond .ne 11, 3) := by decide +kernel
theorem dX11_round_39 : decode cX11_round 39 = .ok (.aload_n 0, 1) := by decide +kernel
theorem dX11_round_40 : decode cX11_round 40 = .ok (.getfield 54, 3) := by decide +kernel
theorem dX11_round_43 : decode cX11_round 43 = .ok (.getfield 200, 3) := by decide +kernel
theorem dX11_round_46 : decode cX11_round 46 = .ok (.ireturn, 1) := by decide +kernel
theorem dX11_round_47 : decode cX11_round 47 = .ok (.iload_n 1, 1) := by decide +kernel
theorem dX11_round_48 : decode cX11_round 48 = .ok (.iconst 1, 1) := by decide +kernel
theorem dX11_round_49 : decode cX11_round 49 = .ok (.if_icmp .ne 13, 3) := by decide +kernel
theorem dX11_round_52 : decode cX11_round 52 = .ok (.aload_n 0, 1) := by decide +kernel
theorem dX11_round_53 : decode cX11_round 53 = .ok (.getfield 54, 3) := by decide +kernel
theorem dX11_round_56 : decode cX11_round 56 = .ok (.getfield 203, 3) := by decide +kernel
theorem dX11_round_59 : decode cX11_round 59 = .ok (.goto 10, 3) := by decide +kernel
theorem dX11_round_62 : decode cX11_round 62 = .ok (.aload_n 0, 1) := by decide +kernel
theorem dX11_round_63 : decode cX11_round 63 = .ok (.getfield 54, 3) := by decide +kernel
theorem dX11_round_66 : decode cX11_round 66 = .ok (.getfield 206, 3) := by decide +kernel
theorem dX11_round_69 : decode cX11_round 69 = .ok (.ireturn, 1) := by decide +kernel
theorem dX11_heardIn_0 : decode cX11_heardIn 0 = .ok (.aload_n 0, 1) := by decide +kernel
theorem dX11_heardIn_1 : decode cX11_heardIn 1 = .ok (.iload_n 1, 1) := by decide +kernel
theorem dX11_heardIn_2 : decode cX11_heardIn 2 = .ok (.invokevirtual 127, 3) := by decide +kernel
theorem dX11_heardIn_5 : decode cX11_heardIn 5 = .ok (.ifCond .eq 14, 3) := by decide +kernel
theorem dX11_heardIn_8 : decode cX11_heardIn 8 = .ok (.iload_n 2, 1) := by decide +kernel
theorem dX11_heardIn_9 : decode cX11_heardIn 9 = .ok (.iconst 1, 1) := by decide +kernel
theorem dX11_heardIn_10 : decode cX11_heardIn 10 = .ok (.sipush 200, 3) := by decide +kernel
theorem dX11_heardIn_13 : decode cX11_heardIn 13 = .ok (.invokestatic 106, 3) := by decide +kernel
theorem dX11_heardIn_16 : decode cX11_heardIn 16 = .ok (.ifCond .ne 5, 3) := by decide +kernel
theorem dX11_heardIn_19 : decode cX11_heardIn 19 = .ok (.iconst (-1), 1) := by decide +kernel
theorem dX11_heardIn_20 : decode cX11_heardIn 20 = .ok (.ireturn, 1) := by decide +kernel
theorem dX11_heardIn_21 : decode cX11_heardIn 21 = .ok (.aload_n 0, 1) := by decide +kernel
theorem dX11_heardIn_22 : decode cX11_heardIn 22 = .ok (.invokevirtual 148, 3) := by decide +kernel
theorem dX11_heardIn_25 : decode cX11_heardIn 25 = .ok (.iconst 0, 1) := by decide +kernel
theorem dX11_heardIn_26 : decode cX11_heardIn 26 = .ok (.istore_n 3, 1) := by decide +kernel
theorem dX11_heardIn_27 : decode cX11_heardIn 27 = .ok (.aload_n 0, 1) := by decide +kernel
theorem dX11_heardIn_28 : decode cX11_heardIn 28 = .ok (.getfield 33, 3) := by decide +kernel
theorem dX11_heardIn_31 : decode cX11_heardIn 31 = .ok (.getfield 160, 3) := by decide +kernel
theorem dX11_heardIn_34 : decode cX11_heardIn 34 = .ok (.istore 4, 2) := by decide +kernel
theorem dX11_heardIn_36 : decode cX11_heardIn 36 = .ok (.iconst 0, 1) := by decide +kernel
theorem dX11_heardIn_37 : decode cX11_heardIn 37 = .ok (.istore 5, 2) := by decide +kernel
theorem dX11_heardIn_39 : decode cX11_heardIn 39 = .ok (.iconst 0, 1) := by decide +kernel
theorem dX11_heardIn_40 : decode cX11_heardIn 40 = .ok (.istore 6, 2) := by decide +kernel
theorem dX11_heardIn_42 : decode cX11_heardIn 42 = .ok (.iload 6, 2) := by decide +kernel
theorem dX11_heardIn_44 : decode cX11_heardIn 44 = .ok (.sipush 200, 3) := by decide +kernel
theorem dX11_heardIn_47 : decode cX11_heardIn 47 = .ok (.if_icmp .gt 77, 3) := by decide +kernel
theorem dX11_heardIn_50 : decode cX11_heardIn 50 = .ok (.iload 4, 2) := by decide +kernel
theorem dX11_heardIn_52 : decode cX11_heardIn 52 = .ok (.iconst (-1), 1) := by decide +kernel
theorem dX11_heardIn_53 : decode cX11_heardIn 53 = .ok (.if_icmp .eq 71, 3) := by decide +kernel
theorem dX11_heardIn_56 : decode cX11_heardIn 56 = .ok (.iload 5, 2) := by decide +kernel
theorem dX11_heardIn_58 : decode cX11_heardIn 58 = .ok (.iload_n 2, 1) := by decide +kernel
theorem dX11_heardIn_59 : decode cX11_heardIn 59 = .ok (.if_icmp .gt 65, 3) := by decide +kernel
theorem dX11_heardIn_62 : decode cX11_heardIn 62 = .ok (.aload_n 0, 1) := by decide +kernel
theorem dX11_heardIn_63 : decode cX11_heardIn 63 = .ok (.getfield 54, 3) := by decide +kernel
theorem dX11_heardIn_66 : decode cX11_heardIn 66 = .ok (.iload 4, 2) := by decide +kernel
theorem dX11_heardIn_68 : decode cX11_heardIn 68 = .ok (.iload_n 1, 1) := by decide +kernel
theorem dX11_heardIn_69 : decode cX11_heardIn 69 = .ok (.invokevirtual 151, 3) := by decide +kernel
theorem dX11_heardIn_72 : decode cX11_heardIn 72 = .ok (.istore 7, 2) := by decide +kernel
theorem dX11_heardIn_74 : decode cX11_heardIn 74 = .ok (.iload 7, 2) := by decide +kernel
theorem dX11_heardIn_76 : decode cX11_heardIn 76 = .ok (.ifCond .le 15, 3) := by decide +kernel
theorem dX11_heardIn_79 : decode cX11_heardIn 79 = .ok (.iload 5, 2) := by decide +kernel
theorem dX11_heardIn_81 : decode cX11_heardIn 81 = .ok (.iload 7, 2) := by decide +kernel
theorem dX11_heardIn_83 : decode cX11_heardIn 83 = .ok (.iadd, 1) := by decide +kernel
theorem dX11_heardIn_84 : decode cX11_heardIn 84 = .ok (.iload_n 2, 1) := by decide +kernel
theorem dX11_heardIn_85 : decode cX11_heardIn 85 = .ok (.if_icmp .gt 6, 3) := by decide +kernel
theorem dX11_heardIn_88 : decode cX11_heardIn 88 = .ok (.iinc 3 1, 3) := by decide +kernel
theorem dX11_heardIn_91 : decode cX11_heardIn 91 = .ok (.iload 5, 2) := by decide +kernel
theorem dX11_heardIn_93 : decode cX11_heardIn 93 = .ok (.aload_n 0, 1) := by decide +kernel
theorem dX11_heardIn_94 : decode cX11_heardIn 94 = .ok (.getfield 54, 3) := by decide +kernel
theorem dX11_heardIn_97 : decode cX11_heardIn 97 = .ok (.getfield 180, 3) := by decide +kernel
theorem dX11_heardIn_100 : decode cX11_heardIn 100 = .ok (.iload 4, 2) := by decide +kernel
theorem dX11_heardIn_102 : decode cX11_heardIn 102 = .ok (.iaload, 1) := by decide +kernel
theorem dX11_heardIn_103 : decode cX11_heardIn 103 = .ok (.iadd, 1) := by decide +kernel
theorem dX11_heardIn_104 : decode cX11_heardIn 104 = .ok (.istore 5, 2) := by decide +kernel
theorem dX11_heardIn_106 : decode cX11_heardIn 106 = .ok (.aload_n 0, 1) := by decide +kernel
theorem dX11_heardIn_107 : decode cX11_heardIn 107 = .ok (.getfield 54, 3) := by decide +kernel
theorem dX11_heardIn_110 : decode cX11_heardIn 110 = .ok (.getfield 173, 3) := by decide +kernel
theorem dX11_heardIn_113 : decode cX11_heardIn 113 = .ok (.iload 4, 2) := by decide +kernel
theorem dX11_heardIn_115 : decode cX11_heardIn 115 = .ok (.iaload, 1) := by decide +kernel
theorem dX11_heardIn_116 : decode cX11_heardIn 116 = .ok (.istore 4, 2) := by decide +kernel
theorem dX11_heardIn_118 : decode cX11_heardIn 118 = .ok (.iinc 6 1, 3) := by decide +kernel
theorem dX11_heardIn_121 : decode cX11_heardIn 121 = .ok (.goto (-79), 3) := by decide +kernel
theorem dX11_heardIn_124 : decode cX11_heardIn 124 = .ok (.iload_n 3, 1) := by decide +kernel
theorem dX11_heardIn_125 : decode cX11_heardIn 125 = .ok (.ireturn, 1) := by decide +kernel
theorem dX11_enders_0 : decode cX11_enders 0 = .ok (.iconst 0, 1) := by decide +kernel
theorem dX11_enders_1 : decode cX11_enders 1 = .ok (.istore_n 1, 1) := by decide +kernel
theorem dX11_enders_2 : decode cX11_enders 2 = .ok (.iconst 0, 1) := by decide +kernel
theorem dX11_enders_3 : decode cX11_enders 3 = .ok (.istore_n 2, 1) := by decide +kernel
theorem dX11_enders_4 : decode cX11_enders 4 = .ok (.iload_n 2, 1) := by decide +kernel
theorem dX11_enders_5 : decode cX11_enders 5 = .ok (.aload_n 0, 1) := by decide +kernel
theorem dX11_enders_6 : decode cX11_enders 6 = .ok (.getfield 19, 3) := by decide +kernel
theorem dX11_enders_9 : decode cX11_enders 9 = .ok (.getfield 170, 3) := by decide +kernel
theorem dX11_enders_12 : decode cX11_enders 12 = .ok (.if_icmp .ge 62, 3) := by decide +kernel
theorem dX11_enders_15 : decode cX11_enders 15 = .ok (.aload_n 0, 1) := by decide +kernel
theorem dX11_enders_16 : decode cX11_enders 16 = .ok (.getfield 33, 3) := by decide +kernel
theorem dX11_enders_19 : decode cX11_enders 19 = .ok (.getfield 134, 3) := by decide +kernel
theorem dX11_enders_22 : decode cX11_enders 22 = .ok (.iload_n 2, 1) := by decide +kernel
theorem dX11_enders_23 : decode cX11_enders 23 = .ok (.ishr, 1) := by decide +kernel
theorem dX11_enders_24 : decode cX11_enders 24 = .ok (.iconst 1, 1) := by decide +kernel
theorem dX11_enders_25 : decode cX11_enders 25 = .ok (.iand, 1) := by decide +kernel
theorem dX11_enders_26 : decode cX11_enders 26 = .ok (.iconst 1, 1) := by decide +kernel
theorem dX11_enders_27 : decode cX11_enders 27 = .ok (.if_icmp .ne 6, 3) := by decide +kernel
theorem dX11_enders_30 : decode cX11_enders 30 = .ok (.goto 38, 3) := by decide +kernel
theorem dX11_enders_33 : decode cX11_enders 33 = .ok (.aload_n 0, 1) := by decide +kernel
theorem dX11_enders_34 : decode cX11_enders 34 = .ok (.invokevirtual 148, 3) := by decide +kernel
theorem dX11_enders_37 : decode cX11_enders 37 = .ok (.aload_n 0, 1) := by decide +kernel
theorem dX11_enders_38 : decode cX11_enders 38 = .ok (.getfield 54, 3) := by decide +kernel
theorem dX11_enders_41 : decode cX11_enders 41 = .ok (.iload_n 2, 1) := by decide +kernel
theorem dX11_enders_42 : decode cX11_enders 42 = .ok (.invokevirtual 209, 3) := by decide +kernel
theorem dX11_enders_45 : decode cX11_enders 45 = .ok (.aload_n 0, 1) := by decide +kernel
theorem dX11_enders_46 : decode cX11_enders 46 = .ok (.getfield 54, 3) := by decide +kernel
theorem dX11_enders_49 : decode cX11_enders 49 = .ok (.aload_n 0, 1) := by decide +kernel
theorem dX11_enders_50 : decode cX11_enders 50 = .ok (.getfield 33, 3) := by decide +kernel
theorem dX11_enders_53 : decode cX11_enders 53 = .ok (.getfield 160, 3) := by decide +kernel
theorem dX11_enders_56 : decode cX11_enders 56 = .ok (.invokevirtual 194, 3) := by decide +kernel
theorem dX11_enders_59 : decode cX11_enders 59 = .ok (.ifCond .ne 9, 3) := by decide +kernel
theorem dX11_enders_62 : decode cX11_enders 62 = .ok (.iload_n 1, 1) := by decide +kernel
theorem dX11_enders_63 : decode cX11_enders 63 = .ok (.iconst 1, 1) := by decide +kernel
theorem dX11_enders_64 : decode cX11_enders 64 = .ok (.iload_n 2, 1) := by decide +kernel
theorem dX11_enders_65 : decode cX11_enders 65 = .ok (.ishl, 1) := by decide +kernel
theorem dX11_enders_66 : decode cX11_enders 66 = .ok (.ior, 1) := by decide +kernel
theorem dX11_enders_67 : decode cX11_enders 67 = .ok (.istore_n 1, 1) := by decide +kernel
theorem dX11_enders_68 : decode cX11_enders 68 = .ok (.iinc 2 1, 3) := by decide +kernel
theorem dX11_enders_71 : decode cX11_enders 71 = .ok (.goto (-67), 3) := by decide +kernel
theorem dX11_enders_74 : decode cX11_enders 74 = .ok (.iload_n 1, 1) := by decide +kernel
theorem dX11_enders_75 : decode cX11_enders 75 = .ok (.ireturn, 1) := by decide +kernel
theorem dX11_mules_0 : decode cX11_mules 0 = .ok (.iload_n 1, 1) := by decide +kernel
theorem dX11_mules_1 : decode cX11_mules 1 = .ok (.iconst 1, 1) := by decide +kernel
theorem dX11_mules_2 : decode cX11_mules 2 = .ok (.bipush 20, 2) := by decide +kernel
theorem dX11_mules_4 : decode cX11_mules 4 = .ok (.invokestatic 106, 3) := by decide +kernel
theorem dX11_mules_7 : decode cX11_mules 7 = .ok (.ifCond .eq 12, 3) := by decide +kernel
theorem dX11_mules_10 : decode cX11_mules 10 = .ok (.iload_n 2, 1) := by decide +kernel
theorem dX11_mules_11 : decode cX11_mules 11 = .ok (.iconst 0, 1) := by decide +kernel
theorem dX11_mules_12 : decode cX11_mules 12 = .ok (.iconst 2, 1) := by decide +kernel
theorem dX11_mules_13 : decode cX11_mules 13 = .ok (.invokestatic 106, 3) := by decide +kernel
theorem dX11_mules_16 : decode cX11_mules 16 = .ok (.ifCond .ne 5, 3) := by decide +kernel
theorem dX11_mules_19 : decode cX11_mules 19 = .ok (.iconst (-1), 1) := by decide +kernel
theorem dX11_mules_20 : decode cX11_mules 20 = .ok (.ireturn, 1) := by decide +kernel
theorem dX11_mules_21 : decode cX11_mules 21 = .ok (.aload_n 0, 1) := by decide +kernel
theorem dX11_mules_22 : decode cX11_mules 22 = .ok (.invokevirtual 148, 3) := by decide +kernel
theorem dX11_mules_25 : decode cX11_mules 25 = .ok (.aload_n 0, 1) := by decide +kernel
theorem dX11_mules_26 : decode cX11_mules 26 = .ok (.getfield 54, 3) := by decide +kernel
theorem dX11_mules_29 : decode cX11_mules 29 = .ok (.aload_n 0, 1) := by decide +kernel
theorem dX11_mules_30 : decode cX11_mules 30 = .ok (.getfield 33, 3) := by decide +kernel
theorem dX11_mules_33 : decode cX11_mules 33 = .ok (.getfield 160, 3) := by decide +kernel
theorem dX11_mules_36 : decode cX11_mules 36 = .ok (.iload_n 1, 1) := by decide +kernel
theorem dX11_mules_37 : decode cX11_mules 37 = .ok (.invokevirtual 213, 3) := by decide +kernel
theorem dX11_mules_40 : decode cX11_mules 40 = .ok (.istore_n 3, 1) := by decide +kernel
theorem dX11_mules_41 : decode cX11_mules 41 = .ok (.iload_n 2, 1) := by decide +kernel
theorem dX11_mules_42 : decode cX11_mules 42 = .ok (.ifCond .ne 5, 3) := by decide +kernel
theorem dX11_mules_45 : decode cX11_mules 45 = .ok (.iload_n 3, 1) := by decide +kernel
theorem dX11_mules_46 : decode cX11_mules 46 = .ok (.ireturn, 1) := by decide +kernel
theorem dX11_mules_47 : decode cX11_mules 47 = .ok (.iload_n 2, 1) := by decide +kernel
theorem dX11_mules_48 : decode cX11_mules 48 = .ok (.iconst 1, 1) := by decide +kernel
theorem dX11_mules_49 : decode cX11_mules 49 = .ok (.if_icmp .ne 13, 3) := by decide +kernel
theorem dX11_mules_52 : decode cX11_mules 52 = .ok (.aload_n 0, 1) := by decide +kernel
theorem dX11_mules_53 : decode cX11_mules 53 = .ok (.getfield 54, 3) := by decide +kernel
theorem dX11_mules_56 : decode cX11_mules 56 = .ok (.getfield 216, 3) := by decide +kernel
theorem dX11_mules_59 : decode cX11_mules 59 = .ok (.goto 10, 3) := by decide +kernel
theorem dX11_mules_62 : decode cX11_mules 62 = .ok (.aload_n 0, 1) := by decide +kernel
theorem dX11_mules_63 : decode cX11_mules 63 = .ok (.getfield 54, 3) := by decide +kernel
theorem dX11_mules_66 : decode cX11_mules 66 = .ok (.getfield 219, 3) := by decide +kernel
theorem dX11_mules_69 : decode cX11_mules 69 = .ok (.istore 4, 2) := by decide +kernel
theorem dX11_mules_71 : decode cX11_mules 71 = .ok (.iload 4, 2) := by decide +kernel
theorem dX11_mules_73 : decode cX11_mules 73 = .ok (.iconst (-1), 1) := by decide +kernel
theorem dX11_mules_74 : decode cX11_mules 74 = .ok (.if_icmp .ne 8, 3) := by decide +kernel
theorem dX11_mules_77 : decode cX11_mules 77 = .ok (.bipush (-9), 2) := by decide +kernel
theorem dX11_mules_79 : decode cX11_mules 79 = .ok (.goto 17, 3) := by decide +kernel
theorem dX11_mules_82 : decode cX11_mules 82 = .ok (.bipush 10, 2) := by decide +kernel
theorem dX11_mules_84 : decode cX11_mules 84 = .ok (.iload 4, 2) := by decide +kernel
theorem dX11_mules_86 : decode cX11_mules 86 = .ok (.bipush 6, 2) := by decide +kernel
theorem dX11_mules_88 : decode cX11_mules 88 = .ok (.idiv, 1) := by decide +kernel
theorem dX11_mules_89 : decode cX11_mules 89 = .ok (.imul, 1) := by decide +kernel
theorem dX11_mules_90 : decode cX11_mules 90 = .ok (.iload 4, 2) := by decide +kernel
theorem dX11_mules_92 : decode cX11_mules 92 = .ok (.bipush 6, 2) := by decide +kernel
theorem dX11_mules_94 : decode cX11_mules 94 = .ok (.irem, 1) := by decide +kernel
theorem dX11_mules_95 : decode cX11_mules 95 = .ok (.iadd, 1) := by decide +kernel
theorem dX11_mules_96 : decode cX11_mules 96 = .ok (.ireturn, 1) := by decide +kernel
theorem dX11_fastest_0 : decode cX11_fastest 0 = .ok (.aload_n 0, 1) := by decide +kernel
theorem dX11_fastest_1 : decode cX11_fastest 1 = .ok (.invokevirtual 148, 3) := by decide +kernel
theorem dX11_fastest_4 : decode cX11_fastest 4 = .ok (.bipush (-9), 2) := by decide +kernel
theorem dX11_fastest_6 : decode cX11_fastest 6 = .ok (.istore_n 1, 1) := by decide +kernel
theorem dX11_fastest_7 : decode cX11_fastest 7 = .ok (.iconst 0, 1) := by decide +kernel
theorem dX11_fastest_8 : decode cX11_fastest 8 = .ok (.istore_n 2, 1) := by decide +kernel
theorem dX11_fastest_9 : decode cX11_fastest 9 = .ok (.iconst 0, 1) := by decide +kernel
theorem dX11_fastest_10 : decode cX11_fastest 10 = .ok (.istore_n 3, 1) := by decide +kernel
theorem dX11_fastest_11 : decode cX11_fastest 11 = .ok (.iconst 0, 1) := by decide +kernel
theorem dX11_fastest_12 : decode cX11_fastest 12 = .ok (.istore 4, 2) := by decide +kernel
theorem dX11_fastest_14 : decode cX11_fastest 14 = .ok (.iload 4, 2) := by decide +kernel
theorem dX11_fastest_16 : decode cX11_fastest 16 = .ok (.aload_n 0, 1) := by decide +kernel
theorem dX11_fastest_17 : decode cX11_fastest 17 = .ok (.getfield 19, 3) := by decide +kernel
theorem dX11_fastest_20 : decode cX11_fastest 20 = .ok (.getfield 170, 3) := by decide +kernel
theorem dX11_fastest_23 : decode cX11_fastest 23 = .ok (.if_icmp .ge 70, 3) := by decide +kernel
theorem dX11_fastest_26 : decode cX11_fastest 26 = .ok (.aload_n 0, 1) := by decide +kernel
theorem dX11_fastest_27 : decode cX11_fastest 27 = .ok (.getfield 54, 3) := by decide +kernel
theorem dX11_fastest_30 : decode cX11_fastest 30 = .ok (.iload 4, 2) := by decide +kernel
theorem dX11_fastest_32 : decode cX11_fastest 32 = .ok (.invokevirtual 194, 3) := by decide +kernel
theorem dX11_fastest_35 : decode cX11_fastest 35 = .ok (.ifCond .ne 6, 3) := by decide +kernel
theorem dX11_fastest_38 : decode cX11_fastest 38 = .ok (.goto 49, 3) := by decide +kernel
theorem dX11_fastest_41 : decode cX11_fastest 41 = .ok (.iload_n 1, 1) := by decide +kernel
theorem dX11_fastest_42 : decode cX11_fastest 42 = .ok (.bipush (-9), 2) := by decide +kernel
theorem dX11_fastest_44 : decode cX11_fastest 44 = .ok (.if_icmp .eq 24, 3) := by decide +kernel
theorem dX11_fastest_47 : decode cX11_fastest 47 = .ok (.aload_n 0, 1) := by decide +kernel
theorem dX11_fastest_48 : decode cX11_fastest 48 = .ok (.getfield 54, 3) := by decide +kernel
theorem dX11_fastest_51 : decode cX11_fastest 51 = .ok (.getfield 206, 3) := by decide +kernel
theorem dX11_fastest_54 : decode cX11_fastest 54 = .ok (.iload_n 2, 1) := by decide +kernel
theorem dX11_fastest_55 : decode cX11_fastest 55 = .ok (.imul, 1) := by decide +kernel
theorem dX11_fastest_56 : decode cX11_fastest 56 = .ok (.iload_n 3, 1) := by decide +kernel
theorem dX11_fastest_57 : decode cX11_fastest 57 = .ok (.aload_n 0, 1) := by decide +kernel
theorem dX11_fastest_58 : decode cX11_fastest 58 = .ok (.getfield 54, 3) := by decide +kernel
theorem dX11_fastest_61 : decode cX11_fastest 61 = .ok (.getfield 203, 3) := by decide +kernel
theorem dX11_fastest_64 : decode cX11_fastest 64 = .ok (.imul, 1) := by decide +kernel
theorem dX11_fastest_65 : decode cX11_fastest 65 = .ok (.if_icmp .ge 22, 3) := by decide +kernel
theorem dX11_fastest_68 : decode cX11_fastest 68 = .ok (.iload 4, 2) := by decide +kernel
theorem dX11_fastest_70 : decode cX11_fastest 70 = .ok (.istore_n 1, 1) := by decide +kernel
theorem dX11_fastest_71 : decode cX11_fastest 71 = .ok (.aload_n 0, 1) := by decide +kernel
theorem dX11_fastest_72 : decode cX11_fastest 72 = .ok (.getfield 54, 3) := by decide +kernel
theorem dX11_fastest_75 : decode cX11_fastest 75 = .ok (.getfield 203, 3) := by decide +kernel
theorem dX11_fastest_78 : decode cX11_fastest 78 = .ok (.istore_n 2, 1) := by decide +kernel
theorem dX11_fastest_79 : decode cX11_fastest 79 = .ok (.aload_n 0, 1) := by decide +kernel
theorem dX11_fastest_80 : decode cX11_fastest 80 = .ok (.getfield 54, 3) := by decide +kernel
theorem dX11_fastest_83 : decode cX11_fastest 83 = .ok (.getfield 206, 3) := by decide +kernel
theorem dX11_fastest_86 : decode cX11_fastest 86 = .ok (.istore_n 3, 1) := by decide +kernel
theorem dX11_fastest_87 : decode cX11_fastest 87 = .ok (.iinc 4 1, 3) := by decide +kernel
theorem dX11_fastest_90 : decode cX11_fastest 90 = .ok (.goto (-76), 3) := by decide +kernel
theorem dX11_fastest_93 : decode cX11_fastest 93 = .ok (.iload_n 1, 1) := by decide +kernel
theorem dX11_fastest_94 : decode cX11_fastest 94 = .ok (.ireturn, 1) := by decide +kernel
theorem dX11_heard_0 : decode cX11_heard 0 = .ok (.aload_n 0, 1) := by decide +kernel
theorem dX11_heard_1 : decode cX11_heard 1 = .ok (.iload_n 1, 1) := by decide +kernel
theorem dX11_heard_2 : decode cX11_heard 2 = .ok (.invokevirtual 127, 3) := by decide +kernel
theorem dX11_heard_5 : decode cX11_heard 5 = .ok (.ifCond .eq 14, 3) := by decide +kernel
theorem dX11_heard_8 : decode cX11_heard 8 = .ok (.iload_n 2, 1) := by decide +kernel
theorem dX11_heard_9 : decode cX11_heard 9 = .ok (.iconst 0, 1) := by decide +kernel
theorem dX11_heard_10 : decode cX11_heard 10 = .ok (.sipush 200, 3) := by decide +kernel
theorem dX11_heard_13 : decode cX11_heard 13 = .ok (.invokestatic 106, 3) := by decide +kernel
theorem dX11_heard_16 : decode cX11_heard 16 = .ok (.ifCond .ne 5, 3) := by decide +kernel
theorem dX11_heard_19 : decode cX11_heard 19 = .ok (.iconst (-1), 1) := by decide +kernel
theorem dX11_heard_20 : decode cX11_heard 20 = .ok (.ireturn, 1) := by decide +kernel
theorem dX11_heard_21 : decode cX11_heard 21 = .ok (.aload_n 0, 1) := by decide +kernel
theorem dX11_heard_22 : decode cX11_heard 22 = .ok (.getfield 90, 3) := by decide +kernel
theorem dX11_heard_25 : decode cX11_heard 25 = .ok (.iconst 5, 1) := by decide +kernel
theorem dX11_heard_26 : decode cX11_heard 26 = .ok (.if_icmp .lt 6, 3) := by decide +kernel
theorem dX11_heard_29 : decode cX11_heard 29 = .ok (.bipush (-3), 2) := by decide +kernel
theorem dX11_heard_31 : decode cX11_heard 31 = .ok (.ireturn, 1) := by decide +kernel
theorem dX11_heard_32 : decode cX11_heard 32 = .ok (.aload_n 0, 1) := by decide +kernel
theorem dX11_heard_33 : decode cX11_heard 33 = .ok (.getfield 83, 3) := by decide +kernel
theorem dX11_heard_36 : decode cX11_heard 36 = .ok (.aload_n 0, 1) := by decide +kernel
theorem dX11_heard_37 : decode cX11_heard 37 = .ok (.getfield 90, 3) := by decide +kernel
theorem dX11_heard_40 : decode cX11_heard 40 = .ok (.iload_n 1, 1) := by decide +kernel
theorem dX11_heard_41 : decode cX11_heard 41 = .ok (.iastore, 1) := by decide +kernel
theorem dX11_heard_42 : decode cX11_heard 42 = .ok (.aload_n 0, 1) := by decide +kernel
theorem dX11_heard_43 : decode cX11_heard 43 = .ok (.getfield 87, 3) := by decide +kernel
theorem dX11_heard_46 : decode cX11_heard 46 = .ok (.aload_n 0, 1) := by decide +kernel
theorem dX11_heard_47 : decode cX11_heard 47 = .ok (.getfield 90, 3) := by decide +kernel
theorem dX11_heard_50 : decode cX11_heard 50 = .ok (.iload_n 2, 1) := by decide +kernel
theorem dX11_heard_51 : decode cX11_heard 51 = .ok (.iastore, 1) := by decide +kernel
theorem dX11_heard_52 : decode cX11_heard 52 = .ok (.aload_n 0, 1) := by decide +kernel
theorem dX11_heard_53 : decode cX11_heard 53 = .ok (.dup, 1) := by decide +kernel
theorem dX11_heard_54 : decode cX11_heard 54 = .ok (.getfield 90, 3) := by decide +kernel
theorem dX11_heard_57 : decode cX11_heard 57 = .ok (.iconst 1, 1) := by decide +kernel
theorem dX11_heard_58 : decode cX11_heard 58 = .ok (.iadd, 1) := by decide +kernel
theorem dX11_heard_59 : decode cX11_heard 59 = .ok (.putfield 90, 3) := by decide +kernel
theorem dX11_heard_62 : decode cX11_heard 62 = .ok (.aload_n 0, 1) := by decide +kernel
theorem dX11_heard_63 : decode cX11_heard 63 = .ok (.getfield 90, 3) := by decide +kernel
theorem dX11_heard_66 : decode cX11_heard 66 = .ok (.ireturn, 1) := by decide +kernel
theorem dX11_forget_0 : decode cX11_forget 0 = .ok (.aload_n 0, 1) := by decide +kernel
theorem dX11_forget_1 : decode cX11_forget 1 = .ok (.getfield 90, 3) := by decide +kernel
theorem dX11_forget_4 : decode cX11_forget 4 = .ok (.istore_n 1, 1) := by decide +kernel
theorem dX11_forget_5 : decode cX11_forget 5 = .ok (.aload_n 0, 1) := by decide +kernel
theorem dX11_forget_6 : decode cX11_forget 6 = .ok (.iconst 0, 1) := by decide +kernel
theorem dX11_forget_7 : decode cX11_forget 7 = .ok (.putfield 90, 3) := by decide +kernel
theorem dX11_forget_10 : decode cX11_forget 10 = .ok (.iload_n 1, 1) := by decide +kernel
theorem dX11_forget_11 : decode cX11_forget 11 = .ok (.ireturn, 1) := by decide +kernel
theorem dX11_mayBe_0 : decode cX11_mayBe 0 = .ok (.aload_n 0, 1) := by decide +kernel
theorem dX11_mayBe_1 : decode cX11_mayBe 1 = .ok (.invokevirtual 222, 3) := by decide +kernel
theorem dX11_mayBe_4 : decode cX11_mayBe 4 = .ok (.iconst 0, 1) := by decide +kernel
theorem dX11_mayBe_5 : decode cX11_mayBe 5 = .ok (.istore_n 1, 1) := by decide +kernel
theorem dX11_mayBe_6 : decode cX11_mayBe 6 = .ok (.iconst 0, 1) := by decide +kernel
theorem dX11_mayBe_7 : decode cX11_mayBe 7 = .ok (.istore_n 2, 1) := by decide +kernel
theorem dX11_mayBe_8 : decode cX11_mayBe 8 = .ok (.iload_n 2, 1) := by decide +kernel
theorem dX11_mayBe_9 : decode cX11_mayBe 9 = .ok (.aload_n 0, 1) := by decide +kernel
theorem dX11_mayBe_10 : decode cX11_mayBe 10 = .ok (.getfield 19, 3) := by decide +kernel
theorem dX11_mayBe_13 : decode cX11_mayBe 13 = .ok (.getfield 170, 3) := by decide +kernel
theorem dX11_mayBe_16 : decode cX11_mayBe 16 = .ok (.if_icmp .ge 23, 3) := by decide +kernel
theorem dX11_mayBe_19 : decode cX11_mayBe 19 = .ok (.aload_n 0, 1) := by decide +kernel
theorem dX11_mayBe_20 : decode cX11_mayBe 20 = .ok (.iload_n 2, 1) := by decide +kernel
theorem dX11_mayBe_21 : decode cX11_mayBe 21 = .ok (.invokevirtual 225, 3) := by decide +kernel
theorem dX11_mayBe_24 : decode cX11_mayBe 24 = .ok (.ifCond .eq 9, 3) := by decide +kernel
theorem dX11_mayBe_27 : decode cX11_mayBe 27 = .ok (.iload_n 1, 1) := by decide +kernel
theorem dX11_mayBe_28 : decode cX11_mayBe 28 = .ok (.iconst 1, 1) := by decide +kernel
theorem dX11_mayBe_29 : decode cX11_mayBe 29 = .ok (.iload_n 2, 1) := by decide +kernel
theorem dX11_mayBe_30 : decode cX11_mayBe 30 = .ok (.ishl, 1) := by decide +kernel
theorem dX11_mayBe_31 : decode cX11_mayBe 31 = .ok (.ior, 1) := by decide +kernel
theorem dX11_mayBe_32 : decode cX11_mayBe 32 = .ok (.istore_n 1, 1) := by decide +kernel
theorem dX11_mayBe_33 : decode cX11_mayBe 33 = .ok (.iinc 2 1, 3) := by decide +kernel
theorem dX11_mayBe_36 : decode cX11_mayBe 36 = .ok (.goto (-28), 3) := by decide +kernel
theorem dX11_mayBe_39 : decode cX11_mayBe 39 = .ok (.iload_n 1, 1) := by decide +kernel
theorem dX11_mayBe_40 : decode cX11_mayBe 40 = .ok (.ireturn, 1) := by decide +kernel
theorem dX11_tells_0 : decode cX11_tells 0 = .ok (.iload_n 1, 1) := by decide +kernel
theorem dX11_tells_1 : decode cX11_tells 1 = .ok (.iconst 0, 1) := by decide +kernel
theorem dX11_tells_2 : decode cX11_tells 2 = .ok (.sipush 400, 3) := by decide +kernel
theorem dX11_tells_5 : decode cX11_tells 5 = .ok (.invokestatic 106, 3) := by decide +kernel
theorem dX11_tells_8 : decode cX11_tells 8 = .ok (.ifCond .ne 5, 3) := by decide +kernel
theorem dX11_tells_11 : decode cX11_tells 11 = .ok (.iconst (-1), 1) := by decide +kernel
theorem dX11_tells_12 : decode cX11_tells 12 = .ok (.ireturn, 1) := by decide +kernel
theorem dX11_tells_13 : decode cX11_tells 13 = .ok (.aload_n 0, 1) := by decide +kernel
theorem dX11_tells_14 : decode cX11_tells 14 = .ok (.getfield 97, 3) := by decide +kernel
theorem dX11_tells_17 : decode cX11_tells 17 = .ok (.bipush 6, 2) := by decide +kernel
theorem dX11_tells_19 : decode cX11_tells 19 = .ok (.if_icmp .lt 6, 3) := by decide +kernel
theorem dX11_tells_22 : decode cX11_tells 22 = .ok (.bipush (-3), 2) := by decide +kernel
theorem dX11_tells_24 : decode cX11_tells 24 = .ok (.ireturn, 1) := by decide +kernel
theorem dX11_tells_25 : decode cX11_tells 25 = .ok (.aload_n 0, 1) := by decide +kernel
theorem dX11_tells_26 : decode cX11_tells 26 = .ok (.getfield 94, 3) := by decide +kernel
theorem dX11_tells_29 : decode cX11_tells 29 = .ok (.aload_n 0, 1) := by decide +kernel
theorem dX11_tells_30 : decode cX11_tells 30 = .ok (.getfield 97, 3) := by decide +kernel
theorem dX11_tells_33 : decode cX11_tells 33 = .ok (.iload_n 1, 1) := by decide +kernel
theorem dX11_tells_34 : decode cX11_tells 34 = .ok (.iastore, 1) := by decide +kernel
theorem dX11_tells_35 : decode cX11_tells 35 = .ok (.aload_n 0, 1) := by decide +kernel
theorem dX11_tells_36 : decode cX11_tells 36 = .ok (.dup, 1) := by decide +kernel
theorem dX11_tells_37 : decode cX11_tells 37 = .ok (.getfield 97, 3) := by decide +kernel
theorem dX11_tells_40 : decode cX11_tells 40 = .ok (.iconst 1, 1) := by decide +kernel
theorem dX11_tells_41 : decode cX11_tells 41 = .ok (.iadd, 1) := by decide +kernel
theorem dX11_tells_42 : decode cX11_tells 42 = .ok (.putfield 97, 3) := by decide +kernel
theorem dX11_tells_45 : decode cX11_tells 45 = .ok (.aload_n 0, 1) := by decide +kernel
theorem dX11_tells_46 : decode cX11_tells 46 = .ok (.getfield 97, 3) := by decide +kernel
theorem dX11_tells_49 : decode cX11_tells 49 = .ok (.ireturn, 1) := by decide +kernel
theorem dX11_unsay_0 : decode cX11_unsay 0 = .ok (.aload_n 0, 1) := by decide +kernel
theorem dX11_unsay_1 : decode cX11_unsay 1 = .ok (.getfield 97, 3) := by decide +kernel
theorem dX11_unsay_4 : decode cX11_unsay 4 = .ok (.istore_n 1, 1) := by decide +kernel
theorem dX11_unsay_5 : decode cX11_unsay 5 = .ok (.aload_n 0, 1) := by decide +kernel
theorem dX11_unsay_6 : decode cX11_unsay 6 = .ok (.iconst 0, 1) := by decide +kernel
theorem dX11_unsay_7 : decode cX11_unsay 7 = .ok (.putfield 97, 3) := by decide +kernel
theorem dX11_unsay_10 : decode cX11_unsay 10 = .ok (.iload_n 1, 1) := by decide +kernel
theorem dX11_unsay_11 : decode cX11_unsay 11 = .ok (.ireturn, 1) := by decide +kernel
theorem dX11_tooMany_0 : decode cX11_tooMany 0 = .ok (.iconst 1, 1) := by decide +kernel
theorem dX11_tooMany_1 : decode cX11_tooMany 1 = .ok (.aload_n 0, 1) := by decide +kernel
theorem dX11_tooMany_2 : decode cX11_tooMany 2 = .ok (.getfield 97, 3) := by decide +kernel
theorem dX11_tooMany_5 : decode cX11_tooMany 5 = .ok (.ishl, 1) := by decide +kernel
theorem dX11_tooMany_6 : decode cX11_tooMany 6 = .ok (.iconst 1, 1) := by decide +kernel
theorem dX11_tooMany_7 : decode cX11_tooMany 7 = .ok (.isub, 1) := by decide +kernel
theorem dX11_tooMany_8 : decode cX11_tooMany 8 = .ok (.aload_n 0, 1) := by decide +kernel
theorem dX11_tooMany_9 : decode cX11_tooMany 9 = .ok (.invokevirtual 228, 3) := by decide +kernel
theorem dX11_tooMany_12 : decode cX11_tooMany 12 = .ok (.iconst (-1), 1) := by decide +kernel
theorem dX11_tooMany_13 : decode cX11_tooMany 13 = .ok (.ixor, 1) := by decide +kernel
theorem dX11_tooMany_14 : decode cX11_tooMany 14 = .ok (.iand, 1) := by decide +kernel
theorem dX11_tooMany_15 : decode cX11_tooMany 15 = .ok (.istore_n 1, 1) := by decide +kernel
theorem dX11_tooMany_16 : decode cX11_tooMany 16 = .ok (.iload_n 1, 1) := by decide +kernel
theorem dX11_tooMany_17 : decode cX11_tooMany 17 = .ok (.invokestatic 232, 3) := by decide +kernel
theorem dX11_tooMany_20 : decode cX11_tooMany 20 = .ok (.iconst 1, 1) := by decide +kernel
theorem dX11_tooMany_21 : decode cX11_tooMany 21 = .ok (.if_icmp .le 8, 3) := by decide +kernel
theorem dX11_tooMany_24 : decode cX11_tooMany 24 = .ok (.bipush (-9), 2) := by decide +kernel
theorem dX11_tooMany_26 : decode cX11_tooMany 26 = .ok (.goto 4, 3) := by decide +kernel
theorem dX11_tooMany_29 : decode cX11_tooMany 29 = .ok (.iload_n 1, 1) := by decide +kernel
theorem dX11_tooMany_30 : decode cX11_tooMany 30 = .ok (.ireturn, 1) := by decide +kernel
theorem dX11_meet_0 : decode cX11_meet 0 = .ok (.aload_n 0, 1) := by decide +kernel
theorem dX11_meet_1 : decode cX11_meet 1 = .ok (.iload_n 1, 1) := by decide +kernel
theorem dX11_meet_2 : decode cX11_meet 2 = .ok (.invokevirtual 127, 3) := by decide +kernel
theorem dX11_meet_5 : decode cX11_meet 5 = .ok (.ifCond .eq 12, 3) := by decide +kernel
theorem dX11_meet_8 : decode cX11_meet 8 = .ok (.iload_n 2, 1) := by decide +kernel
theorem dX11_meet_9 : decode cX11_meet 9 = .ok (.iconst 0, 1) := by decide +kernel
theorem dX11_meet_10 : decode cX11_meet 10 = .ok (.iconst 1, 1) := by decide +kernel
theorem dX11_meet_11 : decode cX11_meet 11 = .ok (.invokestatic 106, 3) := by decide +kernel
theorem dX11_meet_14 : decode cX11_meet 14 = .ok (.ifCond .ne 5, 3) := by decide +kernel
theorem dX11_meet_17 : decode cX11_meet 17 = .ok (.iconst (-1), 1) := by decide +kernel
theorem dX11_meet_18 : decode cX11_meet 18 = .ok (.ireturn, 1) := by decide +kernel
theorem dX11_meet_19 : decode cX11_meet 19 = .ok (.aload_n 0, 1) := by decide +kernel
theorem dX11_meet_20 : decode cX11_meet 20 = .ok (.invokevirtual 148, 3) := by decide +kernel
theorem dX11_meet_23 : decode cX11_meet 23 = .ok (.aload_n 0, 1) := by decide +kernel
theorem dX11_meet_24 : decode cX11_meet 24 = .ok (.getfield 33, 3) := by decide +kernel
theorem dX11_meet_27 : decode cX11_meet 27 = .ok (.getfield 160, 3) := by decide +kernel
theorem dX11_meet_30 : decode cX11_meet 30 = .ok (.istore_n 3, 1) := by decide +kernel
theorem dX11_meet_31 : decode cX11_meet 31 = .ok (.iload_n 1, 1) := by decide +kernel
theorem dX11_meet_32 : decode cX11_meet 32 = .ok (.istore 4, 2) := by decide +kernel
theorem dX11_meet_34 : decode cX11_meet 34 = .ok (.iconst 0, 1) := by decide +kernel
theorem dX11_meet_35 : decode cX11_meet 35 = .ok (.istore 5, 2) := by decide +kernel
theorem dX11_meet_37 : decode cX11_meet 37 = .ok (.iconst 0, 1) := by decide +kernel
theorem dX11_meet_38 : decode cX11_meet 38 = .ok (.istore 6, 2) := by decide +kernel
theorem dX11_meet_40 : decode cX11_meet 40 = .ok (.iconst 0, 1) := by decide +kernel
theorem dX11_meet_41 : decode cX11_meet 41 = .ok (.istore 7, 2) := by decide +kernel
theorem dX11_meet_43 : decode cX11_meet 43 = .ok (.iload 7, 2) := by decide +kernel
theorem dX11_meet_45 : decode cX11_meet 45 = .ok (.sipush 801, 3) := by decide +kernel
theorem dX11_meet_48 : decode cX11_meet 48 = .ok (.if_icmp .gt 124, 3) := by decide +kernel
theorem dX11_meet_51 : decode cX11_meet 51 = .ok (.iload_n 3, 1) := by decide +kernel
theorem dX11_meet_52 : decode cX11_meet 52 = .ok (.iconst (-1), 1) := by decide +kernel
theorem dX11_meet_53 : decode cX11_meet 53 = .ok (.if_icmp .eq 25, 3) := by decide +kernel
theorem dX11_meet_56 : decode cX11_meet 56 = .ok (.iload 4, 2) := by decide +kernel
theorem dX11_meet_58 : decode cX11_meet 58 = .ok (.iconst (-1), 1) := by decide +kernel
theorem dX11_meet_59 : decode cX11_meet 59 = .ok (.if_icmp .eq 19, 3) := by decide +kernel
theorem dX11_meet_62 : decode cX11_meet 62 = .ok (.iload 5, 2) := by decide +kernel
theorem dX11_meet_64 : decode cX11_meet 64 = .ok (.sipush 400, 3) := by decide +kernel
theorem dX11_meet_67 : decode cX11_meet 67 = .ok (.if_icmp .gt 11, 3) := by decide +kernel
theorem dX11_meet_70 : decode cX11_meet 70 = .ok (.iload 6, 2) := by decide +kernel
theorem dX11_meet_72 : decode cX11_meet 72 = .ok (.sipush 400, 3) := by decide +kernel
theorem dX11_meet_75 : decode cX11_meet 75 = .ok (.if_icmp .le 6, 3) := by decide +kernel
theorem dX11_meet_78 : decode cX11_meet 78 = .ok (.bipush (-9), 2) := by decide +kernel
theorem dX11_meet_80 : decode cX11_meet 80 = .ok (.ireturn, 1) := by decide +kernel
theorem dX11_meet_81 : decode cX11_meet 81 = .ok (.iload_n 3, 1) := by decide +kernel
theorem dX11_meet_82 : decode cX11_meet 82 = .ok (.iload 4, 2) := by decide +kernel
theorem dX11_meet_84 : decode cX11_meet 84 = .ok (.if_icmp .ne 21, 3) := by decide +kernel
theorem dX11_meet_87 : decode cX11_meet 87 = .ok (.iload 5, 2) := by decide +kernel
theorem dX11_meet_89 : decode cX11_meet 89 = .ok (.iload 6, 2) := by decide +kernel
theorem dX11_meet_91 : decode cX11_meet 91 = .ok (.if_icmp .ne 14, 3) := by decide +kernel
theorem dX11_meet_94 : decode cX11_meet 94 = .ok (.iload_n 2, 1) := by decide +kernel
theorem dX11_meet_95 : decode cX11_meet 95 = .ok (.ifCond .ne 8, 3) := by decide +kernel
theorem dX11_meet_98 : decode cX11_meet 98 = .ok (.iload 5, 2) := by decide +kernel
theorem dX11_meet_100 : decode cX11_meet 100 = .ok (.goto 4, 3) := by decide +kernel
theorem dX11_meet_103 : decode cX11_meet 103 = .ok (.iload_n 3, 1) := by decide +kernel
theorem dX11_meet_104 : decode cX11_meet 104 = .ok (.ireturn, 1) := by decide +kernel
theorem dX11_meet_105 : decode cX11_meet 105 = .ok (.iload 5, 2) := by decide +kernel
theorem dX11_meet_107 : decode cX11_meet 107 = .ok (.iload 6, 2) := by decide +kernel
theorem dX11_meet_109 : decode cX11_meet 109 = .ok (.if_icmp .gt 30, 3) := by decide +kernel
theorem dX11_meet_112 : decode cX11_meet 112 = .ok (.iload 5, 2) := by decide +kernel
theorem dX11_meet_114 : decode cX11_meet 114 = .ok (.aload_n 0, 1) := by decide +kernel
theorem dX11_meet_115 : decode cX11_meet 115 = .ok (.getfield 54, 3) := by decide +kernel
theorem dX11_meet_118 : decode cX11_meet 118 = .ok (.getfield 180, 3) := by decide +kernel
theorem dX11_meet_121 : decode cX11_meet 121 = .ok (.iload_n 3, 1) := by decide +kernel
theorem dX11_meet_122 : decode cX11_meet 122 = .ok (.iaload, 1) := by decide +kernel
theorem dX11_meet_123 : decode cX11_meet 123 = .ok (.iadd, 1) := by decide +kernel
theorem dX11_meet_124 : decode cX11_meet 124 = .ok (.istore 5, 2) := by decide +kernel
theorem dX11_meet_126 : decode cX11_meet 126 = .ok (.aload_n 0, 1) := by decide +kernel
theorem dX11_meet_127 : decode cX11_meet 127 = .ok (.getfield 54, 3) := by decide +kernel
theorem dX11_meet_130 : decode cX11_meet 130 = .ok (.getfield 173, 3) := by decide +kernel
theorem dX11_meet_133 : decode cX11_meet 133 = .ok (.iload_n 3, 1) := by decide +kernel
theorem dX11_meet_134 : decode cX11_meet 134 = .ok (.iaload, 1) := by decide +kernel
theorem dX11_meet_135 : decode cX11_meet 135 = .ok (.istore_n 3, 1) := by decide +kernel
theorem dX11_meet_136 : decode cX11_meet 136 = .ok (.goto 30, 3) := by decide +kernel
theorem dX11_meet_139 : decode cX11_meet 139 = .ok (.iload 6, 2) := by decide +kernel
theorem dX11_meet_141 : decode cX11_meet 141 = .ok (.aload_n 0, 1) := by decide +kernel
theorem dX11_meet_142 : decode cX11_meet 142 = .ok (.getfield 54, 3) := by decide +kernel
theorem dX11_meet_145 : decode cX11_meet 145 = .ok (.getfield 180, 3) := by decide +kernel
theorem dX11_meet_148 : decode cX11_meet 148 = .ok (.iload 4, 2) := by decide +kernel
theorem dX11_meet_150 : decode cX11_meet 150 = .ok (.iaload, 1) := by decide +kernel
theorem dX11_meet_151 : decode cX11_meet 151 = .ok (.iadd, 1) := by decide +kernel
theorem dX11_meet_152 : decode cX11_meet 152 = .ok (.istore 6, 2) := by decide +kernel
theorem dX11_meet_154 : decode cX11_meet 154 = .ok (.aload_n 0, 1) := by decide +kernel
theorem dX11_meet_155 : decode cX11_meet 155 = .ok (.getfield 54, 3) := by decide +kernel
theorem dX11_meet_158 : decode cX11_meet 158 = .ok (.getfield 173, 3) := by decide +kernel
theorem dX11_meet_161 : decode cX11_meet 161 = .ok (.iload 4, 2) := by decide +kernel
theorem dX11_meet_163 : decode cX11_meet 163 = .ok (.iaload, 1) := by decide +kernel
theorem dX11_meet_164 : decode cX11_meet 164 = .ok (.istore 4, 2) := by decide +kernel
theorem dX11_meet_166 : decode cX11_meet 166 = .ok (.iinc 7 1, 3) := by decide +kernel
theorem dX11_meet_169 : decode cX11_meet 169 = .ok (.goto (-126), 3) := by decide +kernel
theorem dX11_meet_172 : decode cX11_meet 172 = .ok (.bipush (-9), 2) := by decide +kernel
theorem dX11_meet_174 : decode cX11_meet 174 = .ok (.ireturn, 1) := by decide +kernel
theorem dX11_odds_0 : decode cX11_odds 0 = .ok (.aload_n 0, 1) := by decide +kernel
theorem dX11_odds_1 : decode cX11_odds 1 = .ok (.iload_n 1, 1) := by decide +kernel
theorem dX11_odds_2 : decode cX11_odds 2 = .ok (.invokevirtual 127, 3) := by decide +kernel
theorem dX11_odds_5 : decode cX11_odds 5 = .ok (.ifCond .eq 33, 3) := by decide +kernel
theorem dX11_odds_8 : decode cX11_odds 8 = .ok (.iload_n 2, 1) := by decide +kernel
theorem dX11_odds_9 : decode cX11_odds 9 = .ok (.iconst 0, 1) := by decide +kernel
theorem dX11_odds_10 : decode cX11_odds 10 = .ok (.bipush 10, 2) := by decide +kernel
theorem dX11_odds_12 : decode cX11_odds 12 = .ok (.invokestatic 106, 3) := by decide +kernel
theorem dX11_odds_15 : decode cX11_odds 15 = .ok (.ifCond .eq 23, 3) := by decide +kernel
theorem dX11_odds_18 : decode cX11_odds 18 = .ok (.iload_n 3, 1) := by decide +kernel
theorem dX11_odds_19 : decode cX11_odds 19 = .ok (.iconst 0, 1) := by decide +kernel
theorem dX11_odds_20 : decode cX11_odds 20 = .ok (.bipush 6, 2) := by decide +kernel
theorem dX11_odds_22 : decode cX11_odds 22 = .ok (.invokestatic 106, 3) := by decide +kernel
theorem dX11_odds_25 : decode cX11_odds 25 = .ok (.ifCond .eq 13, 3) := by decide +kernel
theorem dX11_odds_28 : decode cX11_odds 28 = .ok (.iload 4, 2) := by decide +kernel
theorem dX11_odds_30 : decode cX11_odds 30 = .ok (.iconst 0, 1) := by decide +kernel
theorem dX11_odds_31 : decode cX11_odds 31 = .ok (.iconst 1, 1) := by decide +kernel
theorem dX11_odds_32 : decode cX11_odds 32 = .ok (.invokestatic 106, 3) := by decide +kernel
theorem dX11_odds_35 : decode cX11_odds 35 = .ok (.ifCond .ne 5, 3) := by decide +kernel
theorem dX11_odds_38 : decode cX11_odds 38 = .ok (.iconst (-1), 1) := by decide +kernel
theorem dX11_odds_39 : decode cX11_odds 39 = .ok (.ireturn, 1) := by decide +kernel
theorem dX11_odds_40 : decode cX11_odds 40 = .ok (.aload_n 0, 1) := by decide +kernel
theorem dX11_odds_41 : decode cX11_odds 41 = .ok (.getfield 54, 3) := by decide +kernel
theorem dX11_odds_44 : decode cX11_odds 44 = .ok (.aload_n 0, 1) := by decide +kernel
theorem dX11_odds_45 : decode cX11_odds 45 = .ok (.getfield 19, 3) := by decide +kernel
theorem dX11_odds_48 : decode cX11_odds 48 = .ok (.aload_n 0, 1) := by decide +kernel
theorem dX11_odds_49 : decode cX11_odds 49 = .ok (.getfield 33, 3) := by decide +kernel
theorem dX11_odds_52 : decode cX11_odds 52 = .ok (.iconst 0, 1) := by decide +kernel
theorem dX11_odds_53 : decode cX11_odds 53 = .ok (.invokevirtual 237, 3) := by decide +kernel
theorem dX11_odds_56 : decode cX11_odds 56 = .ok (.aload_n 0, 1) := by decide +kernel
theorem dX11_odds_57 : decode cX11_odds 57 = .ok (.getfield 58, 3) := by decide +kernel
theorem dX11_odds_60 : decode cX11_odds 60 = .ok (.aload_n 0, 1) := by decide +kernel
theorem dX11_odds_61 : decode cX11_odds 61 = .ok (.getfield 19, 3) := by decide +kernel
theorem dX11_odds_64 : decode cX11_odds 64 = .ok (.aload_n 0, 1) := by decide +kernel
theorem dX11_odds_65 : decode cX11_odds 65 = .ok (.getfield 33, 3) := by decide +kernel
theorem dX11_odds_68 : decode cX11_odds 68 = .ok (.iconst 1, 1) := by decide +kernel
theorem dX11_odds_69 : decode cX11_odds 69 = .ok (.invokevirtual 237, 3) := by decide +kernel
theorem dX11_odds_72 : decode cX11_odds 72 = .ok (.iconst 0, 1) := by decide +kernel
theorem dX11_odds_73 : decode cX11_odds 73 = .ok (.istore 5, 2) := by decide +kernel
theorem dX11_odds_75 : decode cX11_odds 75 = .ok (.iload 5, 2) := by decide +kernel
theorem dX11_odds_77 : decode cX11_odds 77 = .ok (.bipush 6, 2) := by decide +kernel
theorem dX11_odds_79 : decode cX11_odds 79 = .ok (.if_icmp .ge 33, 3) := by decide +kernel
theorem dX11_odds_82 : decode cX11_odds 82 = .ok (.aload_n 0, 1) := by decide +kernel
theorem dX11_odds_83 : decode cX11_odds 83 = .ok (.getfield 100, 3) := by decide +kernel
theorem dX11_odds_86 : decode cX11_odds 86 = .ok (.iload 5, 2) := by decide +kernel
theorem dX11_odds_88 : decode cX11_odds 88 = .ok (.iload 5, 2) := by decide +kernel
theorem dX11_odds_90 : decode cX11_odds 90 = .ok (.aload_n 0, 1) := by decide +kernel
theorem dX11_odds_91 : decode cX11_odds 91 = .ok (.getfield 33, 3) := by decide +kernel
theorem dX11_odds_94 : decode cX11_odds 94 = .ok (.getfield 160, 3) := by decide +kernel
theorem dX11_odds_97 : decode cX11_odds 97 = .ok (.if_icmp .ne 7, 3) := by decide +kernel
theorem dX11_odds_100 : decode cX11_odds 100 = .ok (.iconst 1, 1) := by decide +kernel
theorem dX11_odds_101 : decode cX11_odds 101 = .ok (.goto 4, 3) := by decide +kernel
theorem dX11_odds_104 : decode cX11_odds 104 = .ok (.iconst 0, 1) := by decide +kernel
theorem dX11_odds_105 : decode cX11_odds 105 = .ok (.iastore, 1) := by decide +kernel
theorem dX11_odds_106 : decode cX11_odds 106 = .ok (.iinc 5 1, 3) := by decide +kernel
theorem dX11_odds_109 : decode cX11_odds 109 = .ok (.goto (-34), 3) := by decide +kernel
theorem dX11_odds_112 : decode cX11_odds 112 = .ok (.iconst 1, 1) := by decide +kernel
theorem dX11_odds_113 : decode cX11_odds 113 = .ok (.istore 5, 2) := by decide +kernel
theorem dX11_odds_115 : decode cX11_odds 115 = .ok (.iconst 0, 1) := by decide +kernel
theorem dX11_odds_116 : decode cX11_odds 116 = .ok (.istore 6, 2) := by decide +kernel
theorem dX11_odds_118 : decode cX11_odds 118 = .ok (.iload 6, 2) := by decide +kernel
theorem dX11_odds_120 : decode cX11_odds 120 = .ok (.iload_n 3, 1) := by decide +kernel
theorem dX11_odds_121 : decode cX11_odds 121 = .ok (.if_icmp .ge 21, 3) := by decide +kernel
theorem dX11_odds_124 : decode cX11_odds 124 = .ok (.aload_n 0, 1) := by decide +kernel
theorem dX11_odds_125 : decode cX11_odds 125 = .ok (.iload_n 2, 1) := by decide +kernel
theorem dX11_odds_126 : decode cX11_odds 126 = .ok (.invokevirtual 241, 3) := by decide +kernel
theorem dX11_odds_129 : decode cX11_odds 129 = .ok (.iload 5, 2) := by decide +kernel
theorem dX11_odds_131 : decode cX11_odds 131 = .ok (.bipush 10, 2) := by decide +kernel
theorem dX11_odds_133 : decode cX11_odds 133 = .ok (.imul, 1) := by decide +kernel
theorem dX11_odds_134 : decode cX11_odds 134 = .ok (.istore 5, 2) := by decide +kernel
theorem dX11_odds_136 : decode cX11_odds 136 = .ok (.iinc 6 1, 3) := by decide +kernel
theorem dX11_odds_139 : decode cX11_odds 139 = .ok (.goto (-21), 3) := by decide +kernel
theorem dX11_odds_142 : decode cX11_odds 142 = .ok (.aload_n 0, 1) := by decide +kernel
theorem dX11_odds_143 : decode cX11_odds 143 = .ok (.getfield 100, 3) := by decide +kernel
theorem dX11_odds_146 : decode cX11_odds 146 = .ok (.iload_n 1, 1) := by decide +kernel
theorem dX11_odds_147 : decode cX11_odds 147 = .ok (.iaload, 1) := by decide +kernel
theorem dX11_odds_148 : decode cX11_odds 148 = .ok (.istore 6, 2) := by decide +kernel
theorem dX11_odds_150 : decode cX11_odds 150 = .ok (.iload 6, 2) := by decide +kernel
theorem dX11_odds_152 : decode cX11_odds 152 = .ok (.iload 5, 2) := by decide +kernel
theorem dX11_odds_154 : decode cX11_odds 154 = .ok (.invokestatic 244, 3) := by decide +kernel
theorem dX11_odds_157 : decode cX11_odds 157 = .ok (.istore 7, 2) := by decide +kernel
theorem dX11_odds_159 : decode cX11_odds 159 = .ok (.iload 7, 2) := by decide +kernel
theorem dX11_odds_161 : decode cX11_odds 161 = .ok (.ifCond .ne 6, 3) := by decide +kernel
theorem dX11_odds_164 : decode cX11_odds 164 = .ok (.bipush (-9), 2) := by decide +kernel
theorem dX11_odds_166 : decode cX11_odds 166 = .ok (.ireturn, 1) := by decide +kernel
theorem dX11_odds_167 : decode cX11_odds 167 = .ok (.iload 4, 2) := by decide +kernel
theorem dX11_odds_169 : decode cX11_odds 169 = .ok (.ifCond .ne 11, 3) := by decide +kernel
theorem dX11_odds_172 : decode cX11_odds 172 = .ok (.iload 6, 2) := by decide +kernel
theorem dX11_odds_174 : decode cX11_odds 174 = .ok (.iload 7, 2) := by decide +kernel
theorem dX11_odds_176 : decode cX11_odds 176 = .ok (.idiv, 1) := by decide +kernel
theorem dX11_odds_177 : decode cX11_odds 177 = .ok (.goto 8, 3) := by decide +kernel
theorem dX11_odds_180 : decode cX11_odds 180 = .ok (.iload 5, 2) := by decide +kernel
theorem dX11_odds_182 : decode cX11_odds 182 = .ok (.iload 7, 2) := by decide +kernel
theorem dX11_odds_184 : decode cX11_odds 184 = .ok (.idiv, 1) := by decide +kernel
theorem dX11_odds_185 : decode cX11_odds 185 = .ok (.ireturn, 1) := by decide +kernel
theorem dX11_rate_0 : decode cX11_rate 0 = .ok (.iload_n 1, 1) := by decide +kernel
theorem dX11_rate_1 : decode cX11_rate 1 = .ok (.iconst 0, 1) := by decide +kernel
theorem dX11_rate_2 : decode cX11_rate 2 = .ok (.aload_n 0, 1) := by decide +kernel
theorem dX11_rate_3 : decode cX11_rate 3 = .ok (.getfield 79, 3) := by decide +kernel
theorem dX11_rate_6 : decode cX11_rate 6 = .ok (.arraylength, 1) := by decide +kernel
theorem dX11_rate_7 : decode cX11_rate 7 = .ok (.iconst 1, 1) := by decide +kernel
theorem dX11_rate_8 : decode cX11_rate 8 = .ok (.isub, 1) := by decide +kernel
theorem dX11_rate_9 : decode cX11_rate 9 = .ok (.invokestatic 106, 3) := by decide +kernel
theorem dX11_rate_12 : decode cX11_rate 12 = .ok (.ifCond .eq 11, 3) := by decide +kernel
theorem dX11_rate_15 : decode cX11_rate 15 = .ok (.aload_n 0, 1) := by decide +kernel
theorem dX11_rate_16 : decode cX11_rate 16 = .ok (.iload_n 2, 1) := by decide +kernel
theorem dX11_rate_17 : decode cX11_rate 17 = .ok (.invokevirtual 127, 3) := by decide +kernel
theorem dX11_rate_20 : decode cX11_rate 20 = .ok (.ifCond .ne 6, 3) := by decide +kernel
theorem dX11_rate_23 : decode cX11_rate 23 = .ok (.ldc 247, 2) := by decide +kernel
theorem dX11_rate_25 : decode cX11_rate 25 = .ok (.ireturn, 1) := by decide +kernel
theorem dX11_rate_26 : decode cX11_rate 26 = .ok (.aload_n 0, 1) := by decide +kernel
theorem dX11_rate_27 : decode cX11_rate 27 = .ok (.getfield 79, 3) := by decide +kernel
theorem dX11_rate_30 : decode cX11_rate 30 = .ok (.iload_n 1, 1) := by decide +kernel
theorem dX11_rate_31 : decode cX11_rate 31 = .ok (.aaload, 1) := by decide +kernel
theorem dX11_rate_32 : decode cX11_rate 32 = .ok (.aload_n 0, 1) := by decide +kernel
theorem dX11_rate_33 : decode cX11_rate 33 = .ok (.getfield 19, 3) := by decide +kernel
theorem dX11_rate_36 : decode cX11_rate 36 = .ok (.aload_n 0, 1) := by decide +kernel
theorem dX11_rate_37 : decode cX11_rate 37 = .ok (.getfield 33, 3) := by decide +kernel
theorem dX11_rate_40 : decode cX11_rate 40 = .ok (.iload_n 2, 1) := by decide +kernel
theorem dX11_rate_41 : decode cX11_rate 41 = .ok (.invokevirtual 248, 3) := by decide +kernel
theorem dX11_rate_44 : decode cX11_rate 44 = .ok (.ireturn, 1) := by decide +kernel
theorem dX11_keep_0 : decode cX11_keep 0 = .ok (.iload_n 1, 1) := by decide +kernel
theorem dX11_keep_1 : decode cX11_keep 1 = .ok (.iconst 0, 1) := by decide +kernel
theorem dX11_keep_2 : decode cX11_keep 2 = .ok (.iconst 1, 1) := by decide +kernel
theorem dX11_keep_3 : decode cX11_keep 3 = .ok (.invokestatic 106, 3) := by decide +kernel
theorem dX11_keep_6 : decode cX11_keep 6 = .ok (.ifCond .ne 5, 3) := by decide +kernel
theorem dX11_keep_9 : decode cX11_keep 9 = .ok (.iconst (-1), 1) := by decide +kernel
theorem dX11_keep_10 : decode cX11_keep 10 = .ok (.ireturn, 1) := by decide +kernel
theorem dX11_keep_11 : decode cX11_keep 11 = .ok (.aload_n 0, 1) := by decide +kernel
theorem dX11_keep_12 : decode cX11_keep 12 = .ok (.getfield 43, 3) := by decide +kernel
theorem dX11_keep_15 : decode cX11_keep 15 = .ok (.iload_n 1, 1) := by decide +kernel
theorem dX11_keep_16 : decode cX11_keep 16 = .ok (.aaload, 1) := by decide +kernel
theorem dX11_keep_17 : decode cX11_keep 17 = .ok (.aload_n 0, 1) := by decide +kernel
theorem dX11_keep_18 : decode cX11_keep 18 = .ok (.getfield 33, 3) := by decide +kernel
theorem dX11_keep_21 : decode cX11_keep 21 = .ok (.invokevirtual 252, 3) := by decide +kernel
theorem dX11_keep_24 : decode cX11_keep 24 = .ok (.aload_n 0, 1) := by decide +kernel
theorem dX11_keep_25 : decode cX11_keep 25 = .ok (.getfield 47, 3) := by decide +kernel
theorem dX11_keep_28 : decode cX11_keep 28 = .ok (.iload_n 1, 1) := by decide +kernel
theorem dX11_keep_29 : decode cX11_keep 29 = .ok (.iconst 1, 1) := by decide +kernel
theorem dX11_keep_30 : decode cX11_keep 30 = .ok (.bastore, 1) := by decide +kernel
theorem dX11_keep_31 : decode cX11_keep 31 = .ok (.aload_n 0, 1) := by decide +kernel
theorem dX11_keep_32 : decode cX11_keep 32 = .ok (.getfield 33, 3) := by decide +kernel
theorem dX11_keep_35 : decode cX11_keep 35 = .ok (.getfield 154, 3) := by decide +kernel
theorem dX11_keep_38 : decode cX11_keep 38 = .ok (.ireturn, 1) := by decide +kernel
theorem dX11_back_0 : decode cX11_back 0 = .ok (.iload_n 1, 1) := by decide +kernel
theorem dX11_back_1 : decode cX11_back 1 = .ok (.iconst 0, 1) := by decide +kernel
theorem dX11_back_2 : decode cX11_back 2 = .ok (.iconst 1, 1) := by decide +kernel
theorem dX11_back_3 : decode cX11_back 3 = .ok (.invokestatic 106, 3) := by decide +kernel
theorem dX11_back_6 : decode cX11_back 6 = .ok (.ifCond .ne 5, 3) := by decide +kernel
theorem dX11_back_9 : decode cX11_back 9 = .ok (.iconst (-1), 1) := by decide +kernel
theorem dX11_back_10 : decode cX11_back 10 = .ok (.ireturn, 1) := by decide +kernel
theorem dX11_back_11 : decode cX11_back 11 = .ok (.aload_n 0, 1) := by decide +kernel
theorem dX11_back_12 : decode cX11_back 12 = .ok (.getfield 47, 3) := by decide +kernel
theorem dX11_back_15 : decode cX11_back 15 = .ok (.iload_n 1, 1) := by decide +kernel
theorem dX11_back_16 : decode cX11_back 16 = .ok (.baload, 1) := by decide +kernel
theorem dX11_back_17 : decode cX11_back 17 = .ok (.ifCond .ne 6, 3) := by decide +kernel
theorem dX11_back_20 : decode cX11_back 20 = .ok (.bipush (-2), 2) := by decide +kernel
theorem dX11_back_22 : decode cX11_back 22 = .ok (.ireturn, 1) := by decide +kernel
theorem dX11_back_23 : decode cX11_back 23 = .ok (.aload_n 0, 1) := by decide +kernel
theorem dX11_back_24 : decode cX11_back 24 = .ok (.getfield 33, 3) := by decide +kernel
theorem dX11_back_27 : decode cX11_back 27 = .ok (.aload_n 0, 1) := by decide +kernel
theorem dX11_back_28 : decode cX11_back 28 = .ok (.getfield 43, 3) := by decide +kernel
theorem dX11_back_31 : decode cX11_back 31 = .ok (.iload_n 1, 1) := by decide +kernel
theorem dX11_back_32 : decode cX11_back 32 = .ok (.aaload, 1) := by decide +kernel
theorem dX11_back_33 : decode cX11_back 33 = .ok (.invokevirtual 252, 3) := by decide +kernel
theorem dX11_back_36 : decode cX11_back 36 = .ok (.aload_n 0, 1) := by decide +kernel
theorem dX11_back_37 : decode cX11_back 37 = .ok (.getfield 39, 3) := by decide +kernel
theorem dX11_back_40 : decode cX11_back 40 = .ok (.iconst 0, 1) := by decide +kernel
theorem dX11_back_41 : decode cX11_back 41 = .ok (.putfield 167, 3) := by decide +kernel
theorem dX11_back_44 : decode cX11_back 44 = .ok (.aload_n 0, 1) := by decide +kernel
theorem dX11_back_45 : decode cX11_back 45 = .ok (.getfield 33, 3) := by decide +kernel
theorem dX11_back_48 : decode cX11_back 48 = .ok (.getfield 154, 3) := by decide +kernel
theorem dX11_back_51 : decode cX11_back 51 = .ok (.ireturn, 1) := by decide +kernel
theorem dX11_count_0 : decode cX11_count 0 = .ok (.iload_n 1, 1) := by decide +kernel
theorem dX11_count_1 : decode cX11_count 1 = .ok (.tableswitch 81 0 5 #[39, 47, 55, 63, 68, 73], 39) := by decide +kernel
theorem dX11_count_40 : decode cX11_count 40 = .ok (.aload_n 0, 1) := by decide +kernel
theorem dX11_count_41 : decode cX11_count 41 = .ok (.getfield 19, 3) := by decide +kernel
theorem dX11_count_44 : decode cX11_count 44 = .ok (.getfield 170, 3) := by decide +kernel
theorem dX11_count_47 : decode cX11_count 47 = .ok (.ireturn, 1) := by decide +kernel
theorem dX11_count_48 : decode cX11_count 48 = .ok (.aload_n 0, 1) := by decide +kernel
theorem dX11_count_49 : decode cX11_count 49 = .ok (.getfield 19, 3) := by decide +kernel
theorem dX11_count_52 : decode cX11_count 52 = .ok (.getfield 255, 3) := by decide +kernel
theorem dX11_count_55 : decode cX11_count 55 = .ok (.ireturn, 1) := by decide +kernel
theorem dX11_count_56 : decode cX11_count 56 = .ok (.aload_n 0, 1) := by decide +kernel
theorem dX11_count_57 : decode cX11_count 57 = .ok (.getfield 19, 3) := by decide +kernel
theorem dX11_count_60 : decode cX11_count 60 = .ok (.getfield 258, 3) := by decide +kernel
theorem dX11_count_63 : decode cX11_count 63 = .ok (.ireturn, 1) := by decide +kernel
theorem dX11_count_64 : decode cX11_count 64 = .ok (.aload_n 0, 1) := by decide +kernel
theorem dX11_count_65 : decode cX11_count 65 = .ok (.getfield 90, 3) := by decide +kernel
theorem dX11_count_68 : decode cX11_count 68 = .ok (.ireturn, 1) := by decide +kernel
theorem dX11_count_69 : decode cX11_count 69 = .ok (.aload_n 0, 1) := by decide +kernel
theorem dX11_count_70 : decode cX11_count 70 = .ok (.getfield 97, 3) := by decide +kernel
theorem dX11_count_73 : decode cX11_count 73 = .ok (.ireturn, 1) := by decide +kernel
theorem dX11_count_74 : decode cX11_count 74 = .ok (.aload_n 0, 1) := by decide +kernel
theorem dX11_count_75 : decode cX11_count 75 = .ok (.getfield 10, 3) := by decide +kernel
theorem dX11_count_78 : decode cX11_count 78 = .ok (.getfield 110, 3) := by decide +kernel
theorem dX11_count_81 : decode cX11_count 81 = .ok (.ireturn, 1) := by decide +kernel
theorem dX11_count_82 : decode cX11_count 82 = .ok (.iconst (-1), 1) := by decide +kernel
theorem dX11_count_83 : decode cX11_count 83 = .ok (.ireturn, 1) := by decide +kernel
theorem dX11_trace_0 : decode cX11_trace 0 = .ok (.lconst 0, 1) := by decide +kernel
theorem dX11_trace_1 : decode cX11_trace 1 = .ok (.lstore_n 1, 1) := by decide +kernel
theorem dX11_trace_2 : decode cX11_trace 2 = .ok (.iconst 0, 1) := by decide +kernel
theorem dX11_trace_3 : decode cX11_trace 3 = .ok (.istore_n 3, 1) := by decide +kernel
theorem dX11_trace_4 : decode cX11_trace 4 = .ok (.iload_n 3, 1) := by decide +kernel
theorem dX11_trace_5 : decode cX11_trace 5 = .ok (.aload_n 0, 1) := by decide +kernel
theorem dX11_trace_6 : decode cX11_trace 6 = .ok (.getfield 79, 3) := by decide +kernel
theorem dX11_trace_9 : decode cX11_trace 9 = .ok (.arraylength, 1) := by decide +kernel
theorem dX11_trace_10 : decode cX11_trace 10 = .ok (.if_icmp .ge 21, 3) := by decide +kernel
theorem dX11_trace_13 : decode cX11_trace 13 = .ok (.lload_n 1, 1) := by decide +kernel
theorem dX11_trace_14 : decode cX11_trace 14 = .ok (.aload_n 0, 1) := by decide +kernel
theorem dX11_trace_15 : decode cX11_trace 15 = .ok (.getfield 79, 3) := by decide +kernel
theorem dX11_trace_18 : decode cX11_trace 18 = .ok (.iload_n 3, 1) := by decide +kernel
theorem dX11_trace_19 : decode cX11_trace 19 = .ok (.aaload, 1) := by decide +kernel
theorem dX11_trace_20 : decode cX11_trace 20 = .ok (.getfield 261, 3) := by decide +kernel
theorem dX11_trace_23 : decode cX11_trace 23 = .ok (.ladd, 1) := by decide +kernel
theorem dX11_trace_24 : decode cX11_trace 24 = .ok (.lstore_n 1, 1) := by decide +kernel
theorem dX11_trace_25 : decode cX11_trace 25 = .ok (.iinc 3 1, 3) := by decide +kernel
theorem dX11_trace_28 : decode cX11_trace 28 = .ok (.goto (-24), 3) := by decide +kernel
theorem dX11_trace_31 : decode cX11_trace 31 = .ok (.lload_n 1, 1) := by decide +kernel
theorem dX11_trace_32 : decode cX11_trace 32 = .ok (.lreturn, 1) := by decide +kernel
theorem dX11_isWithin_0 : decode cX11_isWithin 0 = .ok (.iload_n 0, 1) := by decide +kernel
theorem dX11_isWithin_1 : decode cX11_isWithin 1 = .ok (.iload_n 1, 1) := by decide +kernel
theorem dX11_isWithin_2 : decode cX11_isWithin 2 = .ok (.if_icmp .lt 12, 3) := by decide +kernel
theorem dX11_isWithin_5 : decode cX11_isWithin 5 = .ok (.iload_n 0, 1) := by decide +kernel
theorem dX11_isWithin_6 : decode cX11_isWithin 6 = .ok (.iload_n 2, 1) := by decide +kernel
theorem dX11_isWithin_7 : decode cX11_isWithin 7 = .ok (.if_icmp .gt 7, 3) := by decide +kernel
theorem dX11_isWithin_10 : decode cX11_isWithin 10 = .ok (.iconst 1, 1) := by decide +kernel
theorem dX11_isWithin_11 : decode cX11_isWithin 11 = .ok (.goto 4, 3) := by decide +kernel
theorem dX11_isWithin_14 : decode cX11_isWithin 14 = .ok (.iconst 0, 1) := by decide +kernel
theorem dX11_isWithin_15 : decode cX11_isWithin 15 = .ok (.ireturn, 1) := by decide +kernel
theorem dX11_isVillage_0 : decode cX11_isVillage 0 = .ok (.iload_n 1, 1) := by decide +kernel
theorem dX11_isVillage_1 : decode cX11_isVillage 1 = .ok (.ifCond .lt 18, 3) := by decide +kernel
theorem dX11_isVillage_4 : decode cX11_isVillage 4 = .ok (.iload_n 1, 1) := by decide +kernel
theorem dX11_isVillage_5 : decode cX11_isVillage 5 = .ok (.aload_n 0, 1) := by decide +kernel
theorem dX11_isVillage_6 : decode cX11_isVillage 6 = .ok (.getfield 19, 3) := by decide +kernel
theorem dX11_isVillage_9 : decode cX11_isVillage 9 = .ok (.getfield 170, 3) := by decide +kernel
theorem dX11_isVillage_12 : decode cX11_isVillage 12 = .ok (.if_icmp .ge 7, 3) := by decide +kernel
theorem dX11_isVillage_15 : decode cX11_isVillage 15 = .ok (.iconst 1, 1) := by decide +kernel
theorem dX11_isVillage_16 : decode cX11_isVillage 16 = .ok (.goto 4, 3) := by decide +kernel
theorem dX11_isVillage_19 : decode cX11_isVillage 19 = .ok (.iconst 0, 1) := by decide +kernel
theorem dX11_isVillage_20 : decode cX11_isVillage 20 = .ok (.ireturn, 1) := by decide +kernel
theorem dX11_layAsNow_0 : decode cX11_layAsNow 0 = .ok (.aload_n 0, 1) := by decide +kernel
theorem dX11_layAsNow_1 : decode cX11_layAsNow 1 = .ok (.getfield 54, 3) := by decide +kernel
theorem dX11_layAsNow_4 : decode cX11_layAsNow 4 = .ok (.aload_n 0, 1) := by decide +kernel
theorem dX11_layAsNow_5 : decode cX11_layAsNow 5 = .ok (.getfield 19, 3) := by decide +kernel
theorem dX11_layAsNow_8 : decode cX11_layAsNow 8 = .ok (.aload_n 0, 1) := by decide +kernel
theorem dX11_layAsNow_9 : decode cX11_layAsNow 9 = .ok (.getfield 33, 3) := by decide +kernel
theorem dX11_layAsNow_12 : decode cX11_layAsNow 12 = .ok (.aload_n 0, 1) := by decide +kernel
theorem dX11_layAsNow_13 : decode cX11_layAsNow 13 = .ok (.getfield 33, 3) := by decide +kernel
theorem dX11_layAsNow_16 : decode cX11_layAsNow 16 = .ok (.getfield 161, 3) := by decide +kernel
theorem dX11_layAsNow_19 : decode cX11_layAsNow 19 = .ok (.invokevirtual 237, 3) := by decide +kernel
theorem dX11_layAsNow_22 : decode cX11_layAsNow 22 = .ok (.return_, 1) := by decide +kernel
theorem dX11_layAsTold_0 : decode cX11_layAsTold 0 = .ok (.aload_n 0, 1) := by decide +kernel
theorem dX11_layAsTold_1 : decode cX11_layAsTold 1 = .ok (.getfield 54, 3) := by decide +kernel
theorem dX11_layAsTold_4 : decode cX11_layAsTold 4 = .ok (.aload_n 0, 1) := by decide +kernel
theorem dX11_layAsTold_5 : decode cX11_layAsTold 5 = .ok (.getfield 19, 3) := by decide +kernel
theorem dX11_layAsTold_8 : decode cX11_layAsTold 8 = .ok (.aload_n 0, 1) := by decide +kernel
theorem dX11_layAsTold_9 : decode cX11_layAsTold 9 = .ok (.getfield 29, 3) := by decide +kernel
theorem dX11_layAsTold_12 : decode cX11_layAsTold 12 = .ok (.iconst 0, 1) := by decide +kernel
theorem dX11_layAsTold_13 : decode cX11_layAsTold 13 = .ok (.invokevirtual 237, 3) := by decide +kernel
theorem dX11_layAsTold_16 : decode cX11_layAsTold 16 = .ok (.return_, 1) := by decide +kernel
theorem dX11_beginAnew_0 : decode cX11_beginAnew 0 = .ok (.aload_n 0, 1) := by decide +kernel
theorem dX11_beginAnew_1 : decode cX11_beginAnew 1 = .ok (.getfield 10, 3) := by decide +kernel
theorem dX11_beginAnew_4 : decode cX11_beginAnew 4 = .ok (.iconst 0, 1) := by decide +kernel
theorem dX11_beginAnew_5 : decode cX11_beginAnew 5 = .ok (.putfield 110, 3) := by decide +kernel
theorem dX11_beginAnew_8 : decode cX11_beginAnew 8 = .ok (.aload_n 0, 1) := by decide +kernel
theorem dX11_beginAnew_9 : decode cX11_beginAnew 9 = .ok (.getfield 29, 3) := by decide +kernel
theorem dX11_beginAnew_12 : decode cX11_beginAnew 12 = .ok (.aload_n 0, 1) := by decide +kernel
theorem dX11_beginAnew_13 : decode cX11_beginAnew 13 = .ok (.getfield 19, 3) := by decide +kernel
theorem dX11_beginAnew_16 : decode cX11_beginAnew 16 = .ok (.invokevirtual 265, 3) := by decide +kernel
theorem dX11_beginAnew_19 : decode cX11_beginAnew 19 = .ok (.aload_n 0, 1) := by decide +kernel
theorem dX11_beginAnew_20 : decode cX11_beginAnew 20 = .ok (.getfield 33, 3) := by decide +kernel
theorem dX11_beginAnew_23 : decode cX11_beginAnew 23 = .ok (.aload_n 0, 1) := by decide +kernel
theorem dX11_beginAnew_24 : decode cX11_beginAnew 24 = .ok (.getfield 29, 3) := by decide +kernel
theorem dX11_beginAnew_27 : decode cX11_beginAnew 27 = .ok (.invokevirtual 252, 3) := by decide +kernel
theorem dX11_beginAnew_30 : decode cX11_beginAnew 30 = .ok (.aload_n 0, 1) := by decide +kernel
theorem dX11_beginAnew_31 : decode cX11_beginAnew 31 = .ok (.getfield 39, 3) := by decide +kernel
theorem dX11_beginAnew_34 : decode cX11_beginAnew 34 = .ok (.iconst 0, 1) := by decide +kernel
theorem dX11_beginAnew_35 : decode cX11_beginAnew 35 = .ok (.putfield 167, 3) := by decide +kernel
theorem dX11_beginAnew_38 : decode cX11_beginAnew 38 = .ok (.aload_n 0, 1) := by decide +kernel
theorem dX11_beginAnew_39 : decode cX11_beginAnew 39 = .ok (.iconst 0, 1) := by decide +kernel
theorem dX11_beginAnew_40 : decode cX11_beginAnew 40 = .ok (.putfield 90, 3) := by decide +kernel
theorem dX11_beginAnew_43 : decode cX11_beginAnew 43 = .ok (.aload_n 0, 1) := by decide +kernel
theorem dX11_beginAnew_44 : decode cX11_beginAnew 44 = .ok (.iconst 0, 1) := by decide +kernel
theorem dX11_beginAnew_45 : decode cX11_beginAnew 45 = .ok (.putfield 97, 3) := by decide +kernel
theorem dX11_beginAnew_48 : decode cX11_beginAnew 48 = .ok (.iconst 0, 1) := by decide +kernel
theorem dX11_beginAnew_49 : decode cX11_beginAnew 49 = .ok (.istore_n 1, 1) := by decide +kernel
theorem dX11_beginAnew_50 : decode cX11_beginAnew 50 = .ok (.iload_n 1, 1) := by decide +kernel
theorem dX11_beginAnew_51 : decode cX11_beginAnew 51 = .ok (.iconst 2, 1) := by decide +kernel
theorem dX11_beginAnew_52 : decode cX11_beginAnew 52 = .ok (.if_icmp .ge 16, 3) := by decide +kernel
theorem dX11_beginAnew_55 : decode cX11_beginAnew 55 = .ok (.aload_n 0, 1) := by decide +kernel
theorem dX11_beginAnew_56 : decode cX11_beginAnew 56 = .ok (.getfield 47, 3) := by decide +kernel
theorem dX11_beginAnew_59 : decode cX11_beginAnew 59 = .ok (.iload_n 1, 1) := by decide +kernel
theorem dX11_beginAnew_60 : decode cX11_beginAnew 60 = .ok (.iconst 0, 1) := by decide +kernel
theorem dX11_beginAnew_61 : decode cX11_beginAnew 61 = .ok (.bastore, 1) := by decide +kernel
theorem dX11_beginAnew_62 : decode cX11_beginAnew 62 = .ok (.iinc 1 1, 3) := by decide +kernel
theorem dX11_beginAnew_65 : decode cX11_beginAnew 65 = .ok (.goto (-15), 3) := by decide +kernel
theorem dX11_beginAnew_68 : decode cX11_beginAnew 68 = .ok (.return_, 1) := by decide +kernel
theorem dX11_isAllHeardFrom_0 : decode cX11_isAllHeardFrom 0 = .ok (.iconst 1, 1) := by decide +kernel
theorem dX11_isAllHeardFrom_1 : decode cX11_isAllHeardFrom 1 = .ok (.aload_n 0, 1) := by decide +kernel
theorem dX11_isAllHeardFrom_2 : decode cX11_isAllHeardFrom 2 = .ok (.getfield 90, 3) := by decide +kernel
theorem dX11_isAllHeardFrom_5 : decode cX11_isAllHeardFrom 5 = .ok (.ishl, 1) := by decide +kernel
theorem dX11_isAllHeardFrom_6 : decode cX11_isAllHeardFrom 6 = .ok (.iconst 1, 1) := by decide +kernel
theorem dX11_isAllHeardFrom_7 : decode cX11_isAllHeardFrom 7 = .ok (.isub, 1) := by decide +kernel
theorem dX11_isAllHeardFrom_8 : decode cX11_isAllHeardFrom 8 = .ok (.istore_n 2, 1) := by decide +kernel
theorem dX11_isAllHeardFrom_9 : decode cX11_isAllHeardFrom 9 = .ok (.iload_n 1, 1) := by decide +kernel
theorem dX11_isAllHeardFrom_10 : decode cX11_isAllHeardFrom 10 = .ok (.istore_n 3, 1) := by decide +kernel
theorem dX11_isAllHeardFrom_11 : decode cX11_isAllHeardFrom 11 = .ok (.iconst 0, 1) := by decide +kernel
theorem dX11_isAllHeardFrom_12 : decode cX11_isAllHeardFrom 12 = .ok (.istore 4, 2) := by decide +kernel
theorem dX11_isAllHeardFrom_14 : decode cX11_isAllHeardFrom 14 = .ok (.iconst 0, 1) := by decide +kernel
theorem dX11_isAllHeardFrom_15 : decode cX11_isAllHeardFrom 15 = .ok (.istore 5, 2) := by decide +kernel
theorem dX11_isAllHeardFrom_17 : decode cX11_isAllHeardFrom 17 = .ok (.iload 5, 2) := by decide +kernel
theorem dX11_isAllHeardFrom_19 : decode cX11_isAllHeardFrom 19 = .ok (.sipush 200, 3) := by decide +kernel
theorem dX11_isAllHeardFrom_22 : decode cX11_isAllHeardFrom 22 = .ok (.if_icmp .gt 110, 3) := by decide +kernel
theorem dX11_isAllHeardFrom_25 : decode cX11_isAllHeardFrom 25 = .ok (.iload_n 3, 1) := by decide +kernel
theorem dX11_isAllHeardFrom_26 : decode cX11_isAllHeardFrom 26 = .ok (.iconst (-1), 1) := by decide +kernel
theorem dX11_isAllHeardFrom_27 : decode cX11_isAllHeardFrom 27 = .ok (.if_icmp .eq 105, 3) := by decide +kernel
theorem dX11_isAllHeardFrom_30 : decode cX11_isAllHeardFrom 30 = .ok (.iload 4, 2) := by decide +kernel
theorem dX11_isAllHeardFrom_32 : decode cX11_isAllHeardFrom 32 = .ok (.sipush 200, 3) := by decide +kernel
theorem dX11_isAllHeardFrom_35 : decode cX11_isAllHeardFrom 35 = .ok (.if_icmp .gt 97, 3) := by decide +kernel
theorem dX11_isAllHeardFrom_38 : decode cX11_isAllHeardFrom 38 = .ok (.iconst 0, 1) := by decide +kernel
theorem dX11_isAllHeardFrom_39 : decode cX11_isAllHeardFrom 39 = .ok (.istore 6, 2) := by decide +kernel
theorem dX11_isAllHeardFrom_41 : decode cX11_isAllHeardFrom 41 = .ok (.iload 6, 2) := by decide +kernel
theorem dX11_isAllHeardFrom_43 : decode cX11_isAllHeardFrom 43 = .ok (.aload_n 0, 1) := by decide +kernel
theorem dX11_isAllHeardFrom_44 : decode cX11_isAllHeardFrom 44 = .ok (.getfield 90, 3) := by decide +kernel
theorem dX11_isAllHeardFrom_47 : decode cX11_isAllHeardFrom 47 = .ok (.if_icmp .ge 55, 3) := by decide +kernel
theorem dX11_isAllHeardFrom_50 : decode cX11_isAllHeardFrom 50 = .ok (.aload_n 0, 1) := by decide +kernel
theorem dX11_isAllHeardFrom_51 : decode cX11_isAllHeardFrom 51 = .ok (.getfield 54, 3) := by decide +kernel
theorem dX11_isAllHeardFrom_54 : decode cX11_isAllHeardFrom 54 = .ok (.iload_n 3, 1) := by decide +kernel
theorem dX11_isAllHeardFrom_55 : decode cX11_isAllHeardFrom 55 = .ok (.aload_n 0, 1) := by decide +kernel
theorem dX11_isAllHeardFrom_56 : decode cX11_isAllHeardFrom 56 = .ok (.getfield 83, 3) := by decide +kernel
theorem dX11_isAllHeardFrom_59 : decode cX11_isAllHeardFrom 59 = .ok (.iload 6, 2) := by decide +kernel
theorem dX11_isAllHeardFrom_61 : decode cX11_isAllHeardFrom 61 = .ok (.iaload, 1) := by decide +kernel
theorem dX11_isAllHeardFrom_62 : decode cX11_isAllHeardFrom 62 = .ok (.invokevirtual 151, 3) := by decide +kernel
theorem dX11_isAllHeardFrom_65 : decode cX11_isAllHeardFrom 65 = .ok (.istore 7, 2) := by decide +kernel
theorem dX11_isAllHeardFrom_67 : decode cX11_isAllHeardFrom 67 = .ok (.iload 7, 2) := by decide +kernel
theorem dX11_isAllHeardFrom_69 : decode cX11_isAllHeardFrom 69 = .ok (.ifCond .le 27, 3) := by decide +kernel
theorem dX11_isAllHeardFrom_72 : decode cX11_isAllHeardFrom 72 = .ok (.iload 4, 2) := by decide +kernel
theorem dX11_isAllHeardFrom_74 : decode cX11_isAllHeardFrom 74 = .ok (.iload 7, 2) := by decide +kernel
theorem dX11_isAllHeardFrom_76 : decode cX11_isAllHeardFrom 76 = .ok (.iadd, 1) := by decide +kernel
theorem dX11_isAllHeardFrom_77 : decode cX11_isAllHeardFrom 77 = .ok (.aload_n 0, 1) := by decide +kernel
theorem dX11_isAllHeardFrom_78 : decode cX11_isAllHeardFrom 78 = .ok (.getfield 87, 3) := by decide +kernel
theorem dX11_isAllHeardFrom_81 : decode cX11_isAllHeardFrom 81 = .ok (.iload 6, 2) := by decide +kernel
theorem dX11_isAllHeardFrom_83 : decode cX11_isAllHeardFrom 83 = .ok (.iaload, 1) := by decide +kernel
theorem dX11_isAllHeardFrom_84 : decode cX11_isAllHeardFrom 84 = .ok (.if_icmp .ne 12, 3) := by decide +kernel
theorem dX11_isAllHeardFrom_87 : decode cX11_isAllHeardFrom 87 = .ok (.iload_n 2, 1) := by decide +kernel
theorem dX11_isAllHeardFrom_88 : decode cX11_isAllHeardFrom 88 = .ok (.iconst 1, 1) := by decide +kernel
theorem dX11_isAllHeardFrom_89 : decode cX11_isAllHeardFrom 89 = .ok (.iload 6, 2) := by decide +kernel
theorem dX11_isAllHeardFrom_91 : decode cX11_isAllHeardFrom 91 = .ok (.ishl, 1) := by decide +kernel
theorem dX11_isAllHeardFrom_92 : decode cX11_isAllHeardFrom 92 = .ok (.iconst (-1), 1) := by decide +kernel
theorem dX11_isAllHeardFrom_93 : decode cX11_isAllHeardFrom 93 = .ok (.ixor, 1) := by decide +kernel
theorem dX11_isAllHeardFrom_94 : decode cX11_isAllHeardFrom 94 = .ok (.iand, 1) := by decide +kernel
theorem dX11_isAllHeardFrom_95 : decode cX11_isAllHeardFrom 95 = .ok (.istore_n 2, 1) := by decide +kernel
theorem dX11_isAllHeardFrom_96 : decode cX11_isAllHeardFrom 96 = .ok (.iinc 6 1, 3) := by decide +kernel
theorem dX11_isAllHeardFrom_99 : decode cX11_isAllHeardFrom 99 = .ok (.goto (-58), 3) := by decide +kernel
theorem dX11_isAllHeardFrom_102 : decode cX11_isAllHeardFrom 102 = .ok (.iload 4, 2) := by decide +kernel
theorem dX11_isAllHeardFrom_104 : decode cX11_isAllHeardFrom 104 = .ok (.aload_n 0, 1) := by decide +kernel
theorem dX11_isAllHeardFrom_105 : decode cX11_isAllHeardFrom 105 = .ok (.getfield 54, 3) := by decide +kernel
theorem dX11_isAllHeardFrom_108 : decode cX11_isAllHeardFrom 108 = .ok (.getfield 180, 3) := by decide +kernel
theorem dX11_isAllHeardFrom_111 : decode cX11_isAllHeardFrom 111 = .ok (.iload_n 3, 1) := by decide +kernel
theorem dX11_isAllHeardFrom_112 : decode cX11_isAllHeardFrom 112 = .ok (.iaload, 1) := by decide +kernel
theorem dX11_isAllHeardFrom_113 : decode cX11_isAllHeardFrom 113 = .ok (.iadd, 1) := by decide +kernel
theorem dX11_isAllHeardFrom_114 : decode cX11_isAllHeardFrom 114 = .ok (.istore 4, 2) := by decide +kernel
theorem dX11_isAllHeardFrom_116 : decode cX11_isAllHeardFrom 116 = .ok (.aload_n 0, 1) := by decide +kernel
theorem dX11_isAllHeardFrom_117 : decode cX11_isAllHeardFrom 117 = .ok (.getfield 54, 3) := by decide +kernel
theorem dX11_isAllHeardFrom_120 : decode cX11_isAllHeardFrom 120 = .ok (.getfield 173, 3) := by decide +kernel
theorem dX11_isAllHeardFrom_123 : decode cX11_isAllHeardFrom 123 = .ok (.iload_n 3, 1) := by decide +kernel
theorem dX11_isAllHeardFrom_124 : decode cX11_isAllHeardFrom 124 = .ok (.iaload, 1) := by decide +kernel
theorem dX11_isAllHeardFrom_125 : decode cX11_isAllHeardFrom 125 = .ok (.istore_n 3, 1) := by decide +kernel
theorem dX11_isAllHeardFrom_126 : decode cX11_isAllHeardFrom 126 = .ok (.iinc 5 1, 3) := by decide +kernel
theorem dX11_isAllHeardFrom_129 : decode cX11_isAllHeardFrom 129 = .ok (.goto (-112), 3) := by decide +kernel
theorem dX11_isAllHeardFrom_132 : decode cX11_isAllHeardFrom 132 = .ok (.iload_n 2, 1) := by decide +kernel
theorem dX11_isAllHeardFrom_133 : decode cX11_isAllHeardFrom 133 = .ok (.ifCond .ne 7, 3) := by decide +kernel
theorem dX11_isAllHeardFrom_136 : decode cX11_isAllHeardFrom 136 = .ok (.iconst 1, 1) := by decide +kernel
theorem dX11_isAllHeardFrom_137 : decode cX11_isAllHeardFrom 137 = .ok (.goto 4, 3) := by decide +kernel
theorem dX11_isAllHeardFrom_140 : decode cX11_isAllHeardFrom 140 = .ok (.iconst 0, 1) := by decide +kernel
theorem dX11_isAllHeardFrom_141 : decode cX11_isAllHeardFrom 141 = .ok (.ireturn, 1) := by decide +kernel
theorem dX11_toldThatWereStruck_0 : decode cX11_toldThatWereStruck 0 = .ok (.iconst 0, 1) := by decide +kernel
theorem dX11_toldThatWereStruck_1 : decode cX11_toldThatWereStruck 1 = .ok (.istore_n 1, 1) := by decide +kernel
theorem dX11_toldThatWereStruck_2 : decode cX11_toldThatWereStruck 2 = .ok (.aload_n 0, 1) := by decide +kernel
theorem dX11_toldThatWereStruck_3 : decode cX11_toldThatWereStruck 3 = .ok (.invokevirtual 222, 3) := by decide +kernel
theorem dX11_toldThatWereStruck_6 : decode cX11_toldThatWereStruck 6 = .ok (.aload_n 0, 1) := by decide +kernel
theorem dX11_toldThatWereStruck_7 : decode cX11_toldThatWereStruck 7 = .ok (.getfield 19, 3) := by decide +kernel
theorem dX11_toldThatWereStruck_10 : decode cX11_toldThatWereStruck 10 = .ok (.getfield 170, 3) := by decide +kernel
theorem dX11_toldThatWereStruck_13 : decode cX11_toldThatWereStruck 13 = .ok (.ifCond .ne 7, 3) := by decide +kernel
theorem dX11_toldThatWereStruck_16 : decode cX11_toldThatWereStruck 16 = .ok (.iconst (-1), 1) := by decide +kernel
theorem dX11_toldThatWereStruck_17 : decode cX11_toldThatWereStruck 17 = .ok (.goto 10, 3) := by decide +kernel
theorem dX11_toldThatWereStruck_20 : decode cX11_toldThatWereStruck 20 = .ok (.aload_n 0, 1) := by decide +kernel
theorem dX11_toldThatWereStruck_21 : decode cX11_toldThatWereStruck 21 = .ok (.getfield 19, 3) := by decide +kernel
theorem dX11_toldThatWereStruck_24 : decode cX11_toldThatWereStruck 24 = .ok (.getfield 258, 3) := by decide +kernel
theorem dX11_toldThatWereStruck_27 : decode cX11_toldThatWereStruck 27 = .ok (.istore_n 2, 1) := by decide +kernel
theorem dX11_toldThatWereStruck_28 : decode cX11_toldThatWereStruck 28 = .ok (.iconst 0, 1) := by decide +kernel
theorem dX11_toldThatWereStruck_29 : decode cX11_toldThatWereStruck 29 = .ok (.istore_n 3, 1) := by decide +kernel
theorem dX11_toldThatWereStruck_30 : decode cX11_toldThatWereStruck 30 = .ok (.iconst 0, 1) := by decide +kernel
theorem dX11_toldThatWereStruck_31 : decode cX11_toldThatWereStruck 31 = .ok (.istore 4, 2) := by decide +kernel
theorem dX11_toldThatWereStruck_33 : decode cX11_toldThatWereStruck 33 = .ok (.iload 4, 2) := by decide +kernel
theorem dX11_toldThatWereStruck_35 : decode cX11_toldThatWereStruck 35 = .ok (.sipush 400, 3) := by decide +kernel
theorem dX11_toldThatWereStruck_38 : decode cX11_toldThatWereStruck 38 = .ok (.if_icmp .gt 79, 3) := by decide +kernel
theorem dX11_toldThatWereStruck_41 : decode cX11_toldThatWereStruck 41 = .ok (.iload_n 2, 1) := by decide +kernel
theorem dX11_toldThatWereStruck_42 : decode cX11_toldThatWereStruck 42 = .ok (.iconst (-1), 1) := by decide +kernel
theorem dX11_toldThatWereStruck_43 : decode cX11_toldThatWereStruck 43 = .ok (.if_icmp .eq 74, 3) := by decide +kernel
theorem dX11_toldThatWereStruck_46 : decode cX11_toldThatWereStruck 46 = .ok (.iload_n 3, 1) := by decide +kernel
theorem dX11_toldThatWereStruck_47 : decode cX11_toldThatWereStruck 47 = .ok (.sipush 400, 3) := by decide +kernel
theorem dX11_toldThatWereStruck_50 : decode cX11_toldThatWereStruck 50 = .ok (.if_icmp .gt 67, 3) := by decide +kernel
theorem dX11_toldThatWereStruck_53 : decode cX11_toldThatWereStruck 53 = .ok (.iconst 0, 1) := by decide +kernel
theorem dX11_toldThatWereStruck_54 : decode cX11_toldThatWereStruck 54 = .ok (.istore 5, 2) := by decide +kernel
theorem dX11_toldThatWereStruck_56 : decode cX11_toldThatWereStruck 56 = .ok (.iload 5, 2) := by decide +kernel
theorem dX11_toldThatWereStruck_58 : decode cX11_toldThatWereStruck 58 = .ok (.aload_n 0, 1) := by decide +kernel
theorem dX11_toldThatWereStruck_59 : decode cX11_toldThatWereStruck 59 = .ok (.getfield 97, 3) := by decide +kernel
theorem dX11_toldThatWereStruck_62 : decode cX11_toldThatWereStruck 62 = .ok (.if_icmp .ge 27, 3) := by decide +kernel
theorem dX11_toldThatWereStruck_65 : decode cX11_toldThatWereStruck 65 = .ok (.aload_n 0, 1) := by decide +kernel
theorem dX11_toldThatWereStruck_66 : decode cX11_toldThatWereStruck 66 = .ok (.getfield 94, 3) := by decide +kernel
theorem dX11_toldThatWereStruck_69 : decode cX11_toldThatWereStruck 69 = .ok (.iload 5, 2) := by decide +kernel
theorem dX11_toldThatWereStruck_71 : decode cX11_toldThatWereStruck 71 = .ok (.iaload, 1) := by decide +kernel
theorem dX11_toldThatWereStruck_72 : decode cX11_toldThatWereStruck 72 = .ok (.iload_n 3, 1) := by decide +kernel
theorem dX11_toldThatWereStruck_73 : decode cX11_toldThatWereStruck 73 = .ok (.if_icmp .ne 10, 3) := by decide +kernel
theorem dX11_toldThatWereStruck_76 : decode cX11_toldThatWereStruck 76 = .ok (.iload_n 1, 1) := by decide +kernel
theorem dX11_toldThatWereStruck_77 : decode cX11_toldThatWereStruck 77 = .ok (.iconst 1, 1) := by decide +kernel
theorem dX11_toldThatWereStruck_78 : decode cX11_toldThatWereStruck 78 = .ok (.iload 5, 2) := by decide +kernel
theorem dX11_toldThatWereStruck_80 : decode cX11_toldThatWereStruck 80 = .ok (.ishl, 1) := by decide +kernel
theorem dX11_toldThatWereStruck_81 : decode cX11_toldThatWereStruck 81 = .ok (.ior, 1) := by decide +kernel
theorem dX11_toldThatWereStruck_82 : decode cX11_toldThatWereStruck 82 = .ok (.istore_n 1, 1) := by decide +kernel
theorem dX11_toldThatWereStruck_83 : decode cX11_toldThatWereStruck 83 = .ok (.iinc 5 1, 3) := by decide +kernel
theorem dX11_toldThatWereStruck_86 : decode cX11_toldThatWereStruck 86 = .ok (.goto (-30), 3) := by decide +kernel
theorem dX11_toldThatWereStruck_89 : decode cX11_toldThatWereStruck 89 = .ok (.iload_n 3, 1) := by decide +kernel
theorem dX11_toldThatWereStruck_90 : decode cX11_toldThatWereStruck 90 = .ok (.aload_n 0, 1) := by decide +kernel
theorem dX11_toldThatWereStruck_91 : decode cX11_toldThatWereStruck 91 = .ok (.getfield 54, 3) := by decide +kernel
theorem dX11_toldThatWereStruck_94 : decode cX11_toldThatWereStruck 94 = .ok (.getfield 180, 3) := by decide +kernel
theorem dX11_toldThatWereStruck_97 : decode cX11_toldThatWereStruck 97 = .ok (.iload_n 2, 1) := by decide +kernel
theorem dX11_toldThatWereStruck_98 : decode cX11_toldThatWereStruck 98 = .ok (.iaload, 1) := by decide +kernel
theorem dX11_toldThatWereStruck_99 : decode cX11_toldThatWereStruck 99 = .ok (.iadd, 1) := by decide +kernel
theorem dX11_toldThatWereStruck_100 : decode cX11_toldThatWereStruck 100 = .ok (.istore_n 3, 1) := by decide +kernel
theorem dX11_toldThatWereStruck_101 : decode cX11_toldThatWereStruck 101 = .ok (.aload_n 0, 1) := by decide +kernel
theorem dX11_toldThatWereStruck_102 : decode cX11_toldThatWereStruck 102 = .ok (.getfield 54, 3) := by decide +kernel
theorem dX11_toldThatWereStruck_105 : decode cX11_toldThatWereStruck 105 = .ok (.getfield 173, 3) := by decide +kernel
theorem dX11_toldThatWereStruck_108 : decode cX11_toldThatWereStruck 108 = .ok (.iload_n 2, 1) := by decide +kernel
theorem dX11_toldThatWereStruck_109 : decode cX11_toldThatWereStruck 109 = .ok (.iaload, 1) := by decide +kernel
theorem dX11_toldThatWereStruck_110 : decode cX11_toldThatWereStruck 110 = .ok (.istore_n 2, 1) := by decide +kernel
theorem dX11_toldThatWereStruck_111 : decode cX11_toldThatWereStruck 111 = .ok (.iinc 4 1, 3) := by decide +kernel
theorem dX11_toldThatWereStruck_114 : decode cX11_toldThatWereStruck 114 = .ok (.goto (-81), 3) := by decide +kernel
theorem dX11_toldThatWereStruck_117 : decode cX11_toldThatWereStruck 117 = .ok (.iload_n 1, 1) := by decide +kernel
theorem dX11_toldThatWereStruck_118 : decode cX11_toldThatWereStruck 118 = .ok (.ireturn, 1) := by decide +kernel
theorem dX11_spreadChances_0 : decode cX11_spreadChances 0 = .ok (.iconst 0, 1) := by decide +kernel
theorem dX11_spreadChances_1 : decode cX11_spreadChances 1 = .ok (.istore_n 2, 1) := by decide +kernel
theorem dX11_spreadChances_2 : decode cX11_spreadChances 2 = .ok (.iload_n 2, 1) := by decide +kernel
theorem dX11_spreadChances_3 : decode cX11_spreadChances 3 = .ok (.bipush 6, 2) := by decide +kernel
theorem dX11_spreadChances_5 : decode cX11_spreadChances 5 = .ok (.if_icmp .ge 16, 3) := by decide +kernel
theorem dX11_spreadChances_8 : decode cX11_spreadChances 8 = .ok (.aload_n 0, 1) := by decide +kernel
theorem dX11_spreadChances_9 : decode cX11_spreadChances 9 = .ok (.getfield 103, 3) := by decide +kernel
theorem dX11_spreadChances_12 : decode cX11_spreadChances 12 = .ok (.iload_n 2, 1) := by decide +kernel
theorem dX11_spreadChances_13 : decode cX11_spreadChances 13 = .ok (.iconst 0, 1) := by decide +kernel
theorem dX11_spreadChances_14 : decode cX11_spreadChances 14 = .ok (.iastore, 1) := by decide +kernel
theorem dX11_spreadChances_15 : decode cX11_spreadChances 15 = .ok (.iinc 2 1, 3) := by decide +kernel
theorem dX11_spreadChances_18 : decode cX11_spreadChances 18 = .ok (.goto (-16), 3) := by decide +kernel
theorem dX11_spreadChances_21 : decode cX11_spreadChances 21 = .ok (.iconst 0, 1) := by decide +kernel
theorem dX11_spreadChances_22 : decode cX11_spreadChances 22 = .ok (.istore_n 2, 1) := by decide +kernel
theorem dX11_spreadChances_23 : decode cX11_spreadChances 23 = .ok (.iload_n 2, 1) := by decide +kernel
theorem dX11_spreadChances_24 : decode cX11_spreadChances 24 = .ok (.bipush 6, 2) := by decide +kernel
theorem dX11_spreadChances_26 : decode cX11_spreadChances 26 = .ok (.if_icmp .ge 79, 3) := by decide +kernel
theorem dX11_spreadChances_29 : decode cX11_spreadChances 29 = .ok (.aload_n 0, 1) := by decide +kernel
theorem dX11_spreadChances_30 : decode cX11_spreadChances 30 = .ok (.getfield 54, 3) := by decide +kernel
theorem dX11_spreadChances_33 : decode cX11_spreadChances 33 = .ok (.getfield 173, 3) := by decide +kernel
theorem dX11_spreadChances_36 : decode cX11_spreadChances 36 = .ok (.iload_n 2, 1) := by decide +kernel
theorem dX11_spreadChances_37 : decode cX11_spreadChances 37 = .ok (.iaload, 1) := by decide +kernel
theorem dX11_spreadChances_38 : decode cX11_spreadChances 38 = .ok (.istore_n 3, 1) := by decide +kernel
theorem dX11_spreadChances_39 : decode cX11_spreadChances 39 = .ok (.aload_n 0, 1) := by decide +kernel
theorem dX11_spreadChances_40 : decode cX11_spreadChances 40 = .ok (.getfield 58, 3) := by decide +kernel
theorem dX11_spreadChances_43 : decode cX11_spreadChances 43 = .ok (.getfield 173, 3) := by decide +kernel
theorem dX11_spreadChances_46 : decode cX11_spreadChances 46 = .ok (.iload_n 2, 1) := by decide +kernel
theorem dX11_spreadChances_47 : decode cX11_spreadChances 47 = .ok (.iaload, 1) := by decide +kernel
theorem dX11_spreadChances_48 : decode cX11_spreadChances 48 = .ok (.istore 4, 2) := by decide +kernel
theorem dX11_spreadChances_50 : decode cX11_spreadChances 50 = .ok (.iload_n 3, 1) := by decide +kernel
theorem dX11_spreadChances_51 : decode cX11_spreadChances 51 = .ok (.iconst (-1), 1) := by decide +kernel
theorem dX11_spreadChances_52 : decode cX11_spreadChances 52 = .ok (.if_icmp .eq 23, 3) := by decide +kernel
theorem dX11_spreadChances_55 : decode cX11_spreadChances 55 = .ok (.aload_n 0, 1) := by decide +kernel
theorem dX11_spreadChances_56 : decode cX11_spreadChances 56 = .ok (.getfield 103, 3) := by decide +kernel
theorem dX11_spreadChances_59 : decode cX11_spreadChances 59 = .ok (.iload_n 3, 1) := by decide +kernel
theorem dX11_spreadChances_60 : decode cX11_spreadChances 60 = .ok (.dup2, 1) := by decide +kernel
theorem dX11_spreadChances_61 : decode cX11_spreadChances 61 = .ok (.iaload, 1) := by decide +kernel
theorem dX11_spreadChances_62 : decode cX11_spreadChances 62 = .ok (.aload_n 0, 1) := by decide +kernel
theorem dX11_spreadChances_63 : decode cX11_spreadChances 63 = .ok (.getfield 100, 3) := by decide +kernel
theorem dX11_spreadChances_66 : decode cX11_spreadChances 66 = .ok (.iload_n 2, 1) := by decide +kernel
theorem dX11_spreadChances_67 : decode cX11_spreadChances 67 = .ok (.iaload, 1) := by decide +kernel
theorem dX11_spreadChances_68 : decode cX11_spreadChances 68 = .ok (.bipush 10, 2) := by decide +kernel
theorem dX11_spreadChances_70 : decode cX11_spreadChances 70 = .ok (.iload_n 1, 1) := by decide +kernel
theorem dX11_spreadChances_71 : decode cX11_spreadChances 71 = .ok (.isub, 1) := by decide +kernel
theorem dX11_spreadChances_72 : decode cX11_spreadChances 72 = .ok (.imul, 1) := by decide +kernel
theorem dX11_spreadChances_73 : decode cX11_spreadChances 73 = .ok (.iadd, 1) := by decide +kernel
theorem dX11_spreadChances_74 : decode cX11_spreadChances 74 = .ok (.iastore, 1) := by decide +kernel
theorem dX11_spreadChances_75 : decode cX11_spreadChances 75 = .ok (.iload 4, 2) := by decide +kernel
theorem dX11_spreadChances_77 : decode cX11_spreadChances 77 = .ok (.iconst (-1), 1) := by decide +kernel
theorem dX11_spreadChances_78 : decode cX11_spreadChances 78 = .ok (.if_icmp .eq 21, 3) := by decide +kernel
theorem dX11_spreadChances_81 : decode cX11_spreadChances 81 = .ok (.aload_n 0, 1) := by decide +kernel
theorem dX11_spreadChances_82 : decode cX11_spreadChances 82 = .ok (.getfield 103, 3) := by decide +kernel
theorem dX11_spreadChances_85 : decode cX11_spreadChances 85 = .ok (.iload 4, 2) := by decide +kernel
theorem dX11_spreadChances_87 : decode cX11_spreadChances 87 = .ok (.dup2, 1) := by decide +kernel
theorem dX11_spreadChances_88 : decode cX11_spreadChances 88 = .ok (.iaload, 1) := by decide +kernel
theorem dX11_spreadChances_89 : decode cX11_spreadChances 89 = .ok (.aload_n 0, 1) := by decide +kernel
theorem dX11_spreadChances_90 : decode cX11_spreadChances 90 = .ok (.getfield 100, 3) := by decide +kernel
theorem dX11_spreadChances_93 : decode cX11_spreadChances 93 = .ok (.iload_n 2, 1) := by decide +kernel
theorem dX11_spreadChances_94 : decode cX11_spreadChances 94 = .ok (.iaload, 1) := by decide +kernel
theorem dX11_spreadChances_95 : decode cX11_spreadChances 95 = .ok (.iload_n 1, 1) := by decide +kernel
theorem dX11_spreadChances_96 : decode cX11_spreadChances 96 = .ok (.imul, 1) := by decide +kernel
theorem dX11_spreadChances_97 : decode cX11_spreadChances 97 = .ok (.iadd, 1) := by decide +kernel
theorem dX11_spreadChances_98 : decode cX11_spreadChances 98 = .ok (.iastore, 1) := by decide +kernel
theorem dX11_spreadChances_99 : decode cX11_spreadChances 99 = .ok (.iinc 2 1, 3) := by decide +kernel
theorem dX11_spreadChances_102 : decode cX11_spreadChances 102 = .ok (.goto (-79), 3) := by decide +kernel
theorem dX11_spreadChances_105 : decode cX11_spreadChances 105 = .ok (.aload_n 0, 1) := by decide +kernel
theorem dX11_spreadChances_106 : decode cX11_spreadChances 106 = .ok (.getfield 103, 3) := by decide +kernel
theorem dX11_spreadChances_109 : decode cX11_spreadChances 109 = .ok (.iconst 0, 1) := by decide +kernel
theorem dX11_spreadChances_110 : decode cX11_spreadChances 110 = .ok (.aload_n 0, 1) := by decide +kernel
theorem dX11_spreadChances_111 : decode cX11_spreadChances 111 = .ok (.getfield 100, 3) := by decide +kernel
theorem dX11_spreadChances_114 : decode cX11_spreadChances 114 = .ok (.iconst 0, 1) := by decide +kernel
theorem dX11_spreadChances_115 : decode cX11_spreadChances 115 = .ok (.bipush 6, 2) := by decide +kernel
theorem dX11_spreadChances_117 : decode cX11_spreadChances 117 = .ok (.invokestatic 269, 3) := by decide +kernel
theorem dX11_spreadChances_120 : decode cX11_spreadChances 120 = .ok (.return_, 1) := by decide +kernel
theorem dX11_commonDivisor_0 : decode cX11_commonDivisor 0 = .ok (.iload_n 0, 1) := by decide +kernel
theorem dX11_commonDivisor_1 : decode cX11_commonDivisor 1 = .ok (.istore_n 2, 1) := by decide +kernel
theorem dX11_commonDivisor_2 : decode cX11_commonDivisor 2 = .ok (.iload_n 1, 1) := by decide +kernel
theorem dX11_commonDivisor_3 : decode cX11_commonDivisor 3 = .ok (.istore_n 3, 1) := by decide +kernel
theorem dX11_commonDivisor_4 : decode cX11_commonDivisor 4 = .ok (.iconst 0, 1) := by decide +kernel
theorem dX11_commonDivisor_5 : decode cX11_commonDivisor 5 = .ok (.istore 4, 2) := by decide +kernel
theorem dX11_commonDivisor_7 : decode cX11_commonDivisor 7 = .ok (.iload 4, 2) := by decide +kernel
theorem dX11_commonDivisor_9 : decode cX11_commonDivisor 9 = .ok (.bipush 64, 2) := by decide +kernel
theorem dX11_commonDivisor_11 : decode cX11_commonDivisor 11 = .ok (.if_icmp .ge 23, 3) := by decide +kernel
theorem dX11_commonDivisor_14 : decode cX11_commonDivisor 14 = .ok (.iload_n 3, 1) := by decide +kernel
theorem dX11_commonDivisor_15 : decode cX11_commonDivisor 15 = .ok (.ifCond .eq 19, 3) := by decide +kernel
theorem dX11_commonDivisor_18 : decode cX11_commonDivisor 18 = .ok (.iload_n 2, 1) := by decide +kernel
theorem dX11_commonDivisor_19 : decode cX11_commonDivisor 19 = .ok (.iload_n 3, 1) := by decide +kernel
theorem dX11_commonDivisor_20 : decode cX11_commonDivisor 20 = .ok (.irem, 1) := by decide +kernel
theorem dX11_commonDivisor_21 : decode cX11_commonDivisor 21 = .ok (.istore 5, 2) := by decide +kernel
theorem dX11_commonDivisor_23 : decode cX11_commonDivisor 23 = .ok (.iload_n 3, 1) := by decide +kernel
theorem dX11_commonDivisor_24 : decode cX11_commonDivisor 24 = .ok (.istore_n 2, 1) := by decide +kernel
theorem dX11_commonDivisor_25 : decode cX11_commonDivisor 25 = .ok (.iload 5, 2) := by decide +kernel
theorem dX11_commonDivisor_27 : decode cX11_commonDivisor 27 = .ok (.istore_n 3, 1) := by decide +kernel
theorem dX11_commonDivisor_28 : decode cX11_commonDivisor 28 = .ok (.iinc 4 1, 3) := by decide +kernel
theorem dX11_commonDivisor_31 : decode cX11_commonDivisor 31 = .ok (.goto (-24), 3) := by decide +kernel
theorem dX11_commonDivisor_34 : decode cX11_commonDivisor 34 = .ok (.iload_n 2, 1) := by decide +kernel
theorem dX11_commonDivisor_35 : decode cX11_commonDivisor 35 = .ok (.ireturn, 1) := by decide +kernel
theorem dX12_init_0 : decode cX12_init 0 = .ok (.aload_n 0, 1) := by decide +kernel
theorem dX12_init_1 : decode cX12_init 1 = .ok (.invokespecial 1, 3) := by decide +kernel
theorem dX12_init_4 : decode cX12_init 4 = .ok (.aload_n 0, 1) := by decide +kernel
theorem dX12_init_5 : decode cX12_init 5 = .ok (.sipush 200, 3) := by decide +kernel
theorem dX12_init_8 : decode cX12_init 8 = .ok (.newarray .int, 2) := by decide +kernel
theorem dX12_init_10 : decode cX12_init 10 = .ok (.putfield 7, 3) := by decide +kernel
theorem dX12_init_13 : decode cX12_init 13 = .ok (.aload_n 0, 1) := by decide +kernel
theorem dX12_init_14 : decode cX12_init 14 = .ok (.bipush 6, 2) := by decide +kernel
theorem dX12_init_16 : decode cX12_init 16 = .ok (.newarray .int, 2) := by decide +kernel
theorem dX12_init_18 : decode cX12_init 18 = .ok (.putfield 13, 3) := by decide +kernel
theorem dX12_init_21 : decode cX12_init 21 = .ok (.aload_n 0, 1) := by decide +kernel
theorem dX12_init_22 : decode cX12_init 22 = .ok (.bipush 12, 2) := by decide +kernel
theorem dX12_init_24 : decode cX12_init 24 = .ok (.newarray .int, 2) := by decide +kernel
theorem dX12_init_26 : decode cX12_init 26 = .ok (.putfield 16, 3) := by decide +kernel
theorem dX12_init_29 : decode cX12_init 29 = .ok (.aload_n 0, 1) := by decide +kernel
theorem dX12_init_30 : decode cX12_init 30 = .ok (.bipush 12, 2) := by decide +kernel
theorem dX12_init_32 : decode cX12_init 32 = .ok (.newarray .int, 2) := by decide +kernel
theorem dX12_init_34 : decode cX12_init 34 = .ok (.putfield 19, 3) := by decide +kernel
theorem dX12_init_37 : decode cX12_init 37 = .ok (.aload_n 0, 1) := by decide +kernel
theorem dX12_init_38 : decode cX12_init 38 = .ok (.bipush 72, 2) := by decide +kernel
theorem dX12_init_40 : decode cX12_init 40 = .ok (.newarray .int, 2) := by decide +kernel
theorem dX12_init_42 : decode cX12_init 42 = .ok (.putfield 22, 3) := by decide +kernel
theorem dX12_init_45 : decode cX12_init 45 = .ok (.aload_n 0, 1) := by decide +kernel
theorem dX12_init_46 : decode cX12_init 46 = .ok (.bipush 35, 2) := by decide +kernel
theorem dX12_init_48 : decode cX12_init 48 = .ok (.newarray .int, 2) := by decide +kernel
theorem dX12_init_50 : decode cX12_init 50 = .ok (.putfield 25, 3) := by decide +kernel
theorem dX12_init_53 : decode cX12_init 53 = .ok (.aload_n 0, 1) := by decide +kernel
theorem dX12_init_54 : decode cX12_init 54 = .ok (.bipush 35, 2) := by decide +kernel
theorem dX12_init_56 : decode cX12_init 56 = .ok (.newarray .int, 2) := by decide +kernel
theorem dX12_init_58 : decode cX12_init 58 = .ok (.putfield 28, 3) := by decide +kernel
theorem dX12_init_61 : decode cX12_init 61 = .ok (.aload_n 0, 1) := by decide +kernel
theorem dX12_init_62 : decode cX12_init 62 = .ok (.bipush 70, 2) := by decide +kernel
theorem dX12_init_64 : decode cX12_init 64 = .ok (.newarray .int, 2) := by decide +kernel
theorem dX12_init_66 : decode cX12_init 66 = .ok (.putfield 31, 3) := by decide +kernel
theorem dX12_init_69 : decode cX12_init 69 = .ok (.aload_n 0, 1) := by decide +kernel
theorem dX12_init_70 : decode cX12_init 70 = .ok (.iconst 2, 1) := by decide +kernel
theorem dX12_init_71 : decode cX12_init 71 = .ok (.newarray .boolean, 2) := by decide +kernel
theorem dX12_init_73 : decode cX12_init 73 = .ok (.putfield 34, 3) := by decide +kernel
theorem dX12_init_76 : decode cX12_init 76 = .ok (.aload_n 0, 1) := by decide +kernel
theorem dX12_init_77 : decode cX12_init 77 = .ok (.sipush 350, 3) := by decide +kernel
theorem dX12_init_80 : decode cX12_init 80 = .ok (.newarray .int, 2) := by decide +kernel
theorem dX12_init_82 : decode cX12_init 82 = .ok (.putfield 38, 3) := by decide +kernel
theorem dX12_init_85 : decode cX12_init 85 = .ok (.aload_n 0, 1) := by decide +kernel
theorem dX12_init_86 : decode cX12_init 86 = .ok (.iconst 5, 1) := by decide +kernel
theorem dX12_init_87 : decode cX12_init 87 = .ok (.newarray .int, 2) := by decide +kernel
theorem dX12_init_89 : decode cX12_init 89 = .ok (.putfield 41, 3) := by decide +kernel
theorem dX12_init_92 : decode cX12_init 92 = .ok (.aload_n 0, 1) := by decide +kernel
theorem dX12_init_93 : decode cX12_init 93 = .ok (.iconst 5, 1) := by decide +kernel
theorem dX12_init_94 : decode cX12_init 94 = .ok (.newarray .int, 2) := by decide +kernel
theorem dX12_init_96 : decode cX12_init 96 = .ok (.putfield 44, 3) := by decide +kernel
theorem dX12_init_99 : decode cX12_init 99 = .ok (.aload_n 0, 1) := by decide +kernel
theorem dX12_init_100 : decode cX12_init 100 = .ok (.bipush 6, 2) := by decide +kernel
theorem dX12_init_102 : decode cX12_init 102 = .ok (.newarray .int, 2) := by decide +kernel
theorem dX12_init_104 : decode cX12_init 104 = .ok (.putfield 47, 3) := by decide +kernel
theorem dX12_init_107 : decode cX12_init 107 = .ok (.aload_n 0, 1) := by decide +kernel
theorem dX12_init_108 : decode cX12_init 108 = .ok (.bipush 6, 2) := by decide +kernel
theorem dX12_init_110 : decode cX12_init 110 = .ok (.newarray .int, 2) := by decide +kernel
theorem dX12_init_112 : decode cX12_init 112 = .ok (.putfield 50, 3) := by decide +kernel
theorem dX12_init_115 : decode cX12_init 115 = .ok (.aload_n 0, 1) := by decide +kernel
theorem dX12_init_116 : decode cX12_init 116 = .ok (.bipush 6, 2) := by decide +kernel
theorem dX12_init_118 : decode cX12_init 118 = .ok (.newarray .int, 2) := by decide +kernel
theorem dX12_init_120 : decode cX12_init 120 = .ok (.putfield 53, 3) := by decide +kernel
theorem dX12_init_123 : decode cX12_init 123 = .ok (.aload_n 0, 1) := by decide +kernel
theorem dX12_init_124 : decode cX12_init 124 = .ok (.iconst 3, 1) := by decide +kernel
theorem dX12_init_125 : decode cX12_init 125 = .ok (.newarray .int, 2) := by decide +kernel
theorem dX12_init_127 : decode cX12_init 127 = .ok (.putfield 56, 3) := by decide +kernel
theorem dX12_init_130 : decode cX12_init 130 = .ok (.aload_n 0, 1) := by decide +kernel
theorem dX12_init_131 : decode cX12_init 131 = .ok (.bipush 35, 2) := by decide +kernel
theorem dX12_init_133 : decode cX12_init 133 = .ok (.newarray .int, 2) := by decide +kernel
theorem dX12_init_135 : decode cX12_init 135 = .ok (.putfield 59, 3) := by decide +kernel
theorem dX12_init_138 : decode cX12_init 138 = .ok (.aload_n 0, 1) := by decide +kernel
theorem dX12_init_139 : decode cX12_init 139 = .ok (.getfield 13, 3) := by decide +kernel
theorem dX12_init_142 : decode cX12_init 142 = .ok (.iconst 1, 1) := by decide +kernel
theorem dX12_init_143 : decode cX12_init 143 = .ok (.bipush 20, 2) := by decide +kernel
theorem dX12_init_145 : decode cX12_init 145 = .ok (.iastore, 1) := by decide +kernel
theorem dX12_init_146 : decode cX12_init 146 = .ok (.return_, 1) := by decide +kernel
theorem dX12_in_0 : decode cX12_in 0 = .ok (.iload_n 0, 1) := by decide +kernel
theorem dX12_in_1 : decode cX12_in 1 = .ok (.iload_n 1, 1) := by decide +kernel
theorem dX12_in_2 : decode cX12_in 2 = .ok (.if_icmp .lt 12, 3) := by decide +kernel
theorem dX12_in_5 : decode cX12_in 5 = .ok (.iload_n 0, 1) := by decide +kernel
theorem dX12_in_6 : decode cX12_in 6 = .ok (.iload_n 2, 1) := by decide +kernel
theorem dX12_in_7 : decode cX12_in 7 = .ok (.if_icmp .gt 7, 3) := by decide +kernel
theorem dX12_in_10 : decode cX12_in 10 = .ok (.iconst 1, 1) := by decide +kernel
theorem dX12_in_11 : decode cX12_in 11 = .ok (.goto 4, 3) := by decide +kernel
theorem dX12_in_14 : decode cX12_in 14 = .ok (.iconst 0, 1) := by decide +kernel
theorem dX12_in_15 : decode cX12_in 15 = .ok (.ireturn, 1) := by decide +kernel
theorem dX12_type_0 : decode cX12_type 0 = .ok (.aload_n 0, 1) := by decide +kernel
theorem dX12_type_1 : decode cX12_type 1 = .ok (.iconst 0, 1) := by decide +kernel
theorem dX12_type_2 : decode cX12_type 2 = .ok (.putfield 62, 3) := by decide +kernel
theorem dX12_type_5 : decode cX12_type 5 = .ok (.iload_n 1, 1) := by decide +kernel
theorem dX12_type_6 : decode cX12_type 6 = .ok (.iconst 0, 1) := by decide +kernel
theorem dX12_type_7 : decode cX12_type 7 = .ok (.sipush 255, 3) := by decide +kernel
theorem dX12_type_10 : decode cX12_type 10 = .ok (.invokestatic 66, 3) := by decide +kernel
theorem dX12_type_13 : decode cX12_type 13 = .ok (.ifCond .ne 5, 3) := by decide +kernel
theorem dX12_type_16 : decode cX12_type 16 = .ok (.iconst (-1), 1) := by decide +kernel
theorem dX12_type_17 : decode cX12_type 17 = .ok (.ireturn, 1) := by decide +kernel
theorem dX12_type_18 : decode cX12_type 18 = .ok (.aload_n 0, 1) := by decide +kernel
theorem dX12_type_19 : decode cX12_type 19 = .ok (.getfield 70, 3) := by decide +kernel
theorem dX12_type_22 : decode cX12_type 22 = .ok (.sipush 200, 3) := by decide +kernel
theorem dX12_type_25 : decode cX12_type 25 = .ok (.if_icmp .ne 6, 3) := by decide +kernel
theorem dX12_type_28 : decode cX12_type 28 = .ok (.bipush (-3), 2) := by decide +kernel
theorem dX12_type_30 : decode cX12_type 30 = .ok (.ireturn, 1) := by decide +kernel
theorem dX12_type_31 : decode cX12_type 31 = .ok (.aload_n 0, 1) := by decide +kernel
theorem dX12_type_32 : decode cX12_type 32 = .ok (.getfield 7, 3) := by decide +kernel
theorem dX12_type_35 : decode cX12_type 35 = .ok (.aload_n 0, 1) := by decide +kernel
theorem dX12_type_36 : decode cX12_type 36 = .ok (.getfield 70, 3) := by decide +kernel
theorem dX12_type_39 : decode cX12_type 39 = .ok (.iload_n 1, 1) := by decide +kernel
theorem dX12_type_40 : decode cX12_type 40 = .ok (.iastore, 1) := by decide +kernel
theorem dX12_type_41 : decode cX12_type 41 = .ok (.aload_n 0, 1) := by decide +kernel
theorem dX12_type_42 : decode cX12_type 42 = .ok (.dup, 1) := by decide +kernel
theorem dX12_type_43 : decode cX12_type 43 = .ok (.getfield 70, 3) := by decide +kernel
theorem dX12_type_46 : decode cX12_type 46 = .ok (.iconst 1, 1) := by decide +kernel
theorem dX12_type_47 : decode cX12_type 47 = .ok (.iadd, 1) := by decide +kernel
theorem dX12_type_48 : decode cX12_type 48 = .ok (.putfield 70, 3) := by decide +kernel
theorem dX12_type_51 : decode cX12_type 51 = .ok (.aload_n 0, 1) := by decide +kernel
theorem dX12_type_52 : decode cX12_type 52 = .ok (.getfield 70, 3) := by decide +kernel
theorem dX12_type_55 : decode cX12_type 55 = .ok (.ireturn, 1) := by decide +kernel
theorem dX12_clear_0 : decode cX12_clear 0 = .ok (.aload_n 0, 1) := by decide +kernel
theorem dX12_clear_1 : decode cX12_clear 1 = .ok (.iconst 0, 1) := by decide +kernel
theorem dX12_clear_2 : decode cX12_clear 2 = .ok (.putfield 62, 3) := by decide +kernel
theorem dX12_clear_5 : decode cX12_clear 5 = .ok (.aload_n 0, 1) := by decide +kernel
theorem dX12_clear_6 : decode cX12_clear 6 = .ok (.getfield 70, 3) := by decide +kernel
theorem dX12_clear_9 : decode cX12_clear 9 = .ok (.istore_n 1, 1) := by decide +kernel
theorem dX12_clear_10 : decode cX12_clear 10 = .ok (.aload_n 0, 1) := by decide +kernel
theorem dX12_clear_11 : decode cX12_clear 11 = .ok (.iconst 0, 1) := by decide +kernel
theorem dX12_clear_12 : decode cX12_clear 12 = .ok (.putfield 70, 3) := by decide +kernel
theorem dX12_clear_15 : decode cX12_clear 15 = .ok (.iload_n 1, 1) := by decide +kernel
theorem dX12_clear_16 : decode cX12_clear 16 = .ok (.ireturn, 1) := by decide +kernel
theorem dX12_letterAt_0 : decode cX12_letterAt 0 = .ok (.iload_n 1, 1) := by decide +kernel
theorem dX12_letterAt_1 : decode cX12_letterAt 1 = .ok (.aload_n 0, 1) := by decide +kernel
theorem dX12_letterAt_2 : decode cX12_letterAt 2 = .ok (.getfield 70, 3) := by decide +kernel
theorem dX12_letterAt_5 : decode cX12_letterAt 5 = .ok (.if_icmp .ge 12, 3) := by decide +kernel
theorem dX12_letterAt_8 : decode cX12_letterAt 8 = .ok (.aload_n 0, 1) := by decide +kernel
theorem dX12_letterAt_9 : decode cX12_letterAt 9 = .ok (.getfield 7, 3) := by decide +kernel
theorem dX12_letterAt_12 : decode cX12_letterAt 12 = .ok (.iload_n 1, 1) := by decide +kernel
theorem dX12_letterAt_13 : decode cX12_letterAt 13 = .ok (.iaload, 1) := by decide +kernel
theorem dX12_letterAt_14 : decode cX12_letterAt 14 = .ok (.goto 4, 3) := by decide +kernel
theorem dX12_letterAt_17 : decode cX12_letterAt 17 = .ok (.iconst (-1), 1) := by decide +kernel
theorem dX12_letterAt_18 : decode cX12_letterAt 18 = .ok (.ireturn, 1) := by decide +kernel
theorem dX12_advances_0 : decode cX12_advances 0 = .ok (.aload_n 0, 1) := by decide +kernel
theorem dX12_advances_1 : decode cX12_advances 1 = .ok (.aload_n 0, 1) := by decide +kernel
theorem dX12_advances_2 : decode cX12_advances 2 = .ok (.getfield 73, 3) := by decide +kernel
theorem dX12_advances_5 : decode cX12_advances 5 = .ok (.invokevirtual 76, 3) := by decide +kernel
theorem dX12_advances_8 : decode cX12_advances 8 = .ok (.bipush 32, 2) := by decide +kernel
theorem dX12_advances_10 : decode cX12_advances 10 = .ok (.if_icmp .ne 16, 3) := by decide +kernel
theorem dX12_advances_13 : decode cX12_advances 13 = .ok (.aload_n 0, 1) := by decide +kernel
theorem dX12_advances_14 : decode cX12_advances 14 = .ok (.dup, 1) := by decide +kernel
theorem dX12_advances_15 : decode cX12_advances 15 = .ok (.getfield 73, 3) := by decide +kernel
theorem dX12_advances_18 : decode cX12_advances 18 = .ok (.iconst 1, 1) := by decide +kernel
theorem dX12_advances_19 : decode cX12_advances 19 = .ok (.iadd, 1) := by decide +kernel
theorem dX12_advances_20 : decode cX12_advances 20 = .ok (.putfield 73, 3) := by decide +kernel
theorem dX12_advances_23 : decode cX12_advances 23 = .ok (.goto (-23), 3) := by decide +kernel
theorem dX12_advances_26 : decode cX12_advances 26 = .ok (.aload_n 0, 1) := by decide +kernel
theorem dX12_advances_27 : decode cX12_advances 27 = .ok (.aload_n 0, 1) := by decide +kernel
theorem dX12_advances_28 : decode cX12_advances 28 = .ok (.getfield 73, 3) := by decide +kernel
theorem dX12_advances_31 : decode cX12_advances 31 = .ok (.putfield 80, 3) := by decide +kernel
theorem dX12_advances_34 : decode cX12_advances 34 = .ok (.aload_n 0, 1) := by decide +kernel
theorem dX12_advances_35 : decode cX12_advances 35 = .ok (.aload_n 0, 1) := by decide +kernel
theorem dX12_advances_36 : decode cX12_advances 36 = .ok (.getfield 73, 3) := by decide +kernel
theorem dX12_advances_39 : decode cX12_advances 39 = .ok (.invokevirtual 76, 3) := by decide +kernel
theorem dX12_advances_42 : decode cX12_advances 42 = .ok (.istore_n 1, 1) := by decide +kernel
theorem dX12_advances_43 : decode cX12_advances 43 = .ok (.iload_n 1, 1) := by decide +kernel
theorem dX12_advances_44 : decode cX12_advances 44 = .ok (.ifCond .ge 11, 3) := by decide +kernel
theorem dX12_advances_47 : decode cX12_advances 47 = .ok (.aload_n 0, 1) := by decide +kernel
theorem dX12_advances_48 : decode cX12_advances 48 = .ok (.iconst 0, 1) := by decide +kernel
theorem dX12_advances_49 : decode cX12_advances 49 = .ok (.putfield 83, 3) := by decide +kernel
theorem dX12_advances_52 : decode cX12_advances 52 = .ok (.goto 187, 3) := by decide +kernel
theorem dX12_advances_55 : decode cX12_advances 55 = .ok (.iload_n 1, 1) := by decide +kernel
theorem dX12_advances_56 : decode cX12_advances 56 = .ok (.bipush 48, 2) := by decide +kernel
theorem dX12_advances_58 : decode cX12_advances 58 = .ok (.bipush 57, 2) := by decide +kernel
theorem dX12_advances_60 : decode cX12_advances 60 = .ok (.invokestatic 66, 3) := by decide +kernel
theorem dX12_advances_63 : decode cX12_advances 63 = .ok (.ifCond .eq 118, 3) := by decide +kernel
theorem dX12_advances_66 : decode cX12_advances 66 = .ok (.aload_n 0, 1) := by decide +kernel
theorem dX12_advances_67 : decode cX12_advances 67 = .ok (.iconst 0, 1) := by decide +kernel
theorem dX12_advances_68 : decode cX12_advances 68 = .ok (.putfield 86, 3) := by decide +kernel
theorem dX12_advances_71 : decode cX12_advances 71 = .ok (.aload_n 0, 1) := by decide +kernel
theorem dX12_advances_72 : decode cX12_advances 72 = .ok (.aload_n 0, 1) := by decide +kernel
theorem dX12_advances_73 : decode cX12_advances 73 = .ok (.getfield 73, 3) := by decide +kernel
theorem dX12_advances_76 : decode cX12_advances 76 = .ok (.invokevirtual 76, 3) := by decide +kernel
theorem dX12_advances_79 : decode cX12_advances 79 = .ok (.bipush 48, 2) := by decide +kernel
theorem dX12_advances_81 : decode cX12_advances 81 = .ok (.bipush 57, 2) := by decide +kernel
theorem dX12_advances_83 : decode cX12_advances 83 = .ok (.invokestatic 66, 3) := by decide +kernel
theorem dX12_advances_86 : decode cX12_advances 86 = .ok (.ifCond .eq 55, 3) := by decide +kernel
theorem dX12_advances_89 : decode cX12_advances 89 = .ok (.aload_n 0, 1) := by decide +kernel
theorem dX12_advances_90 : decode cX12_advances 90 = .ok (.aload_n 0, 1) := by decide +kernel
theorem dX12_advances_91 : decode cX12_advances 91 = .ok (.getfield 86, 3) := by decide +kernel
theorem dX12_advances_94 : decode cX12_advances 94 = .ok (.bipush 20, 2) := by decide +kernel
theorem dX12_advances_96 : decode cX12_advances 96 = .ok (.if_icmp .le 10, 3) := by decide +kernel
theorem dX12_advances_99 : decode cX12_advances 99 = .ok (.aload_n 0, 1) := by decide +kernel
theorem dX12_advances_100 : decode cX12_advances 100 = .ok (.getfield 86, 3) := by decide +kernel
theorem dX12_advances_103 : decode cX12_advances 103 = .ok (.goto 22, 3) := by decide +kernel
theorem dX12_advances_106 : decode cX12_advances 106 = .ok (.bipush 10, 2) := by decide +kernel
theorem dX12_advances_108 : decode cX12_advances 108 = .ok (.aload_n 0, 1) := by decide +kernel
theorem dX12_advances_109 : decode cX12_advances 109 = .ok (.getfield 86, 3) := by decide +kernel
theorem dX12_advances_112 : decode cX12_advances 112 = .ok (.imul, 1) := by decide +kernel
theorem dX12_advances_113 : decode cX12_advances 113 = .ok (.aload_n 0, 1) := by decide +kernel
theorem dX12_advances_114 : decode cX12_advances 114 = .ok (.aload_n 0, 1) := by decide +kernel
theorem dX12_advances_115 : decode cX12_advances 115 = .ok (.getfield 73, 3) := by decide +kernel
theorem dX12_advances_118 : decode cX12_advances 118 = .ok (.invokevirtual 76, 3) := by decide +kernel
theorem dX12_advances_121 : decode cX12_advances 121 = .ok (.iadd, 1) := by decide +kernel
theorem dX12_advances_122 : decode cX12_advances 122 = .ok (.bipush 48, 2) := by decide +kernel
theorem dX12_advances_124 : decode cX12_advances 124 = .ok (.isub, 1) := by decide +kernel
theorem dX12_advances_125 : decode cX12_advances 125 = .ok (.putfield 86, 3) := by decide +kernel
theorem dX12_advances_128 : decode cX12_advances 128 = .ok (.aload_n 0, 1) := by decide +kernel
theorem dX12_advances_129 : decode cX12_advances 129 = .ok (.dup, 1) := by decide +kernel
theorem dX12_advances_130 : decode cX12_advances 130 = .ok (.getfield 73, 3) := by decide +kernel
theorem dX12_advances_133 : decode cX12_advances 133 = .ok (.iconst 1, 1) := by decide +kernel
theorem dX12_advances_134 : decode cX12_advances 134 = .ok (.iadd, 1) := by decide +kernel
theorem dX12_advances_135 : decode cX12_advances 135 = .ok (.putfield 73, 3) := by decide +kernel
theorem dX12_advances_138 : decode cX12_advances 138 = .ok (.goto (-67), 3) := by decide +kernel
theorem dX12_advances_141 : decode cX12_advances 141 = .ok (.aload_n 0, 1) := by decide +kernel
theorem dX12_advances_142 : decode cX12_advances 142 = .ok (.aload_n 0, 1) := by decide +kernel
theorem dX12_advances_143 : decode cX12_advances 143 = .ok (.getfield 86, 3) := by decide +kernel
theorem dX12_advances_146 : decode cX12_advances 146 = .ok (.bipush 20, 2) := by decide +kernel
theorem dX12_advances_148 : decode cX12_advances 148 = .ok (.if_icmp .gt 22, 3) := by decide +kernel
theorem dX12_advances_151 : decode cX12_advances 151 = .ok (.iload_n 1, 1) := by decide +kernel
theorem dX12_advances_152 : decode cX12_advances 152 = .ok (.bipush 48, 2) := by decide +kernel
theorem dX12_advances_154 : decode cX12_advances 154 = .ok (.if_icmp .ne 20, 3) := by decide +kernel
theorem dX12_advances_157 : decode cX12_advances 157 = .ok (.aload_n 0, 1) := by decide +kernel
theorem dX12_advances_158 : decode cX12_advances 158 = .ok (.getfield 73, 3) := by decide +kernel
theorem dX12_advances_161 : decode cX12_advances 161 = .ok (.aload_n 0, 1) := by decide +kernel
theorem dX12_advances_162 : decode cX12_advances 162 = .ok (.getfield 80, 3) := by decide +kernel
theorem dX12_advances_165 : decode cX12_advances 165 = .ok (.isub, 1) := by decide +kernel
theorem dX12_advances_166 : decode cX12_advances 166 = .ok (.iconst 1, 1) := by decide +kernel
theorem dX12_advances_167 : decode cX12_advances 167 = .ok (.if_icmp .le 7, 3) := by decide +kernel
theorem dX12_advances_170 : decode cX12_advances 170 = .ok (.iconst 4, 1) := by decide +kernel
theorem dX12_advances_171 : decode cX12_advances 171 = .ok (.goto 4, 3) := by decide +kernel
theorem dX12_advances_174 : decode cX12_advances 174 = .ok (.iconst 2, 1) := by decide +kernel
theorem dX12_advances_175 : decode cX12_advances 175 = .ok (.putfield 83, 3) := by decide +kernel
theorem dX12_advances_178 : decode cX12_advances 178 = .ok (.goto 61, 3) := by decide +kernel
theorem dX12_advances_181 : decode cX12_advances 181 = .ok (.aload_n 0, 1) := by decide +kernel
theorem dX12_advances_182 : decode cX12_advances 182 = .ok (.dup, 1) := by decide +kernel
theorem dX12_advances_183 : decode cX12_advances 183 = .ok (.getfield 73, 3) := by decide +kernel
theorem dX12_advances_186 : decode cX12_advances 186 = .ok (.iconst 1, 1) := by decide +kernel
theorem dX12_advances_187 : decode cX12_advances 187 = .ok (.iadd, 1) := by decide +kernel
theorem dX12_advances_188 : decode cX12_advances 188 = .ok (.putfield 73, 3) := by decide +kernel
