theorem dX7_isFixed_13 : decode cX7_isFixed 13 = .ok (.if_icmp .ne 7, 3) := by decide +kernel
theorem dX7_isFixed_16 : decode cX7_isFixed 16 = .ok (.iconst 1, 1) := by decide +kernel
theorem dX7_isFixed_17 : decode cX7_isFixed 17 = .ok (.goto 4, 3) := by decide +kernel
theorem dX7_isFixed_20 : decode cX7_isFixed 20 = .ok (.iconst 0, 1) := by decide +kernel
theorem dX7_isFixed_21 : decode cX7_isFixed 21 = .ok (.ireturn, 1) := by decide +kernel
theorem dX7_has_0 : decode cX7_has 0 = .ok (.aload_n 0, 1) := by decide +kernel
theorem dX7_has_1 : decode cX7_has 1 = .ok (.getfield 11, 3) := by decide +kernel
theorem dX7_has_4 : decode cX7_has 4 = .ok (.iconst 4, 1) := by decide +kernel
theorem dX7_has_5 : decode cX7_has 5 = .ok (.iconst 4, 1) := by decide +kernel
theorem dX7_has_6 : decode cX7_has 6 = .ok (.iload_n 1, 1) := by decide +kernel
theorem dX7_has_7 : decode cX7_has 7 = .ok (.imul, 1) := by decide +kernel
theorem dX7_has_8 : decode cX7_has 8 = .ok (.iadd, 1) := by decide +kernel
theorem dX7_has_9 : decode cX7_has 9 = .ok (.iconst 2, 1) := by decide +kernel
theorem dX7_has_10 : decode cX7_has 10 = .ok (.iadd, 1) := by decide +kernel
theorem dX7_has_11 : decode cX7_has 11 = .ok (.iload_n 2, 1) := by decide +kernel
theorem dX7_has_12 : decode cX7_has 12 = .ok (.iastore, 1) := by decide +kernel
theorem dX7_has_13 : decode cX7_has 13 = .ok (.return_, 1) := by decide +kernel
theorem dX7_stationAt_0 : decode cX7_stationAt 0 = .ok (.iconst 0, 1) := by decide +kernel
theorem dX7_stationAt_1 : decode cX7_stationAt 1 = .ok (.istore_n 3, 1) := by decide +kernel
theorem dX7_stationAt_2 : decode cX7_stationAt 2 = .ok (.iload_n 3, 1) := by decide +kernel
theorem dX7_stationAt_3 : decode cX7_stationAt 3 = .ok (.aload_n 0, 1) := by decide +kernel
theorem dX7_stationAt_4 : decode cX7_stationAt 4 = .ok (.getfield 11, 3) := by decide +kernel
theorem dX7_stationAt_7 : decode cX7_stationAt 7 = .ok (.iconst 0, 1) := by decide +kernel
theorem dX7_stationAt_8 : decode cX7_stationAt 8 = .ok (.iaload, 1) := by decide +kernel
theorem dX7_stationAt_9 : decode cX7_stationAt 9 = .ok (.if_icmp .ge 29, 3) := by decide +kernel
theorem dX7_stationAt_12 : decode cX7_stationAt 12 = .ok (.aload_n 0, 1) := by decide +kernel
theorem dX7_stationAt_13 : decode cX7_stationAt 13 = .ok (.iload_n 3, 1) := by decide +kernel
theorem dX7_stationAt_14 : decode cX7_stationAt 14 = .ok (.invokevirtual 41, 3) := by decide +kernel
theorem dX7_stationAt_17 : decode cX7_stationAt 17 = .ok (.iload_n 1, 1) := by decide +kernel
theorem dX7_stationAt_18 : decode cX7_stationAt 18 = .ok (.if_icmp .ne 14, 3) := by decide +kernel
theorem dX7_stationAt_21 : decode cX7_stationAt 21 = .ok (.aload_n 0, 1) := by decide +kernel
theorem dX7_stationAt_22 : decode cX7_stationAt 22 = .ok (.iload_n 3, 1) := by decide +kernel
theorem dX7_stationAt_23 : decode cX7_stationAt 23 = .ok (.invokevirtual 45, 3) := by decide +kernel
theorem dX7_stationAt_26 : decode cX7_stationAt 26 = .ok (.iload_n 2, 1) := by decide +kernel
theorem dX7_stationAt_27 : decode cX7_stationAt 27 = .ok (.if_icmp .ne 5, 3) := by decide +kernel
theorem dX7_stationAt_30 : decode cX7_stationAt 30 = .ok (.iload_n 3, 1) := by decide +kernel
theorem dX7_stationAt_31 : decode cX7_stationAt 31 = .ok (.ireturn, 1) := by decide +kernel
theorem dX7_stationAt_32 : decode cX7_stationAt 32 = .ok (.iinc 3 1, 3) := by decide +kernel
theorem dX7_stationAt_35 : decode cX7_stationAt 35 = .ok (.goto (-33), 3) := by decide +kernel
theorem dX7_stationAt_38 : decode cX7_stationAt 38 = .ok (.iconst (-1), 1) := by decide +kernel
theorem dX7_stationAt_39 : decode cX7_stationAt 39 = .ok (.ireturn, 1) := by decide +kernel
theorem dX7_isPlace_0 : decode cX7_isPlace 0 = .ok (.iload_n 0, 1) := by decide +kernel
theorem dX7_isPlace_1 : decode cX7_isPlace 1 = .ok (.i2l, 1) := by decide +kernel
theorem dX7_isPlace_2 : decode cX7_isPlace 2 = .ok (.lconst 0, 1) := by decide +kernel
theorem dX7_isPlace_3 : decode cX7_isPlace 3 = .ok (.ldc2_w 48, 3) := by decide +kernel
theorem dX7_isPlace_6 : decode cX7_isPlace 6 = .ok (.invokestatic 37, 3) := by decide +kernel
theorem dX7_isPlace_9 : decode cX7_isPlace 9 = .ok (.ifCond .eq 19, 3) := by decide +kernel
theorem dX7_isPlace_12 : decode cX7_isPlace 12 = .ok (.iload_n 1, 1) := by decide +kernel
theorem dX7_isPlace_13 : decode cX7_isPlace 13 = .ok (.i2l, 1) := by decide +kernel
theorem dX7_isPlace_14 : decode cX7_isPlace 14 = .ok (.lconst 0, 1) := by decide +kernel
theorem dX7_isPlace_15 : decode cX7_isPlace 15 = .ok (.ldc2_w 48, 3) := by decide +kernel
theorem dX7_isPlace_18 : decode cX7_isPlace 18 = .ok (.invokestatic 37, 3) := by decide +kernel
theorem dX7_isPlace_21 : decode cX7_isPlace 21 = .ok (.ifCond .eq 7, 3) := by decide +kernel
theorem dX7_isPlace_24 : decode cX7_isPlace 24 = .ok (.iconst 1, 1) := by decide +kernel
theorem dX7_isPlace_25 : decode cX7_isPlace 25 = .ok (.goto 4, 3) := by decide +kernel
theorem dX7_isPlace_28 : decode cX7_isPlace 28 = .ok (.iconst 0, 1) := by decide +kernel
theorem dX7_isPlace_29 : decode cX7_isPlace 29 = .ok (.ireturn, 1) := by decide +kernel
theorem dX7_station_0 : decode cX7_station 0 = .ok (.iload_n 1, 1) := by decide +kernel
theorem dX7_station_1 : decode cX7_station 1 = .ok (.iload_n 2, 1) := by decide +kernel
theorem dX7_station_2 : decode cX7_station 2 = .ok (.invokestatic 50, 3) := by decide +kernel
theorem dX7_station_5 : decode cX7_station 5 = .ok (.ifCond .ne 6, 3) := by decide +kernel
theorem dX7_station_8 : decode cX7_station 8 = .ok (.bipush (-2), 2) := by decide +kernel
theorem dX7_station_10 : decode cX7_station 10 = .ok (.ireturn, 1) := by decide +kernel
theorem dX7_station_11 : decode cX7_station 11 = .ok (.aload_n 0, 1) := by decide +kernel
theorem dX7_station_12 : decode cX7_station 12 = .ok (.iload_n 1, 1) := by decide +kernel
theorem dX7_station_13 : decode cX7_station 13 = .ok (.iload_n 2, 1) := by decide +kernel
theorem dX7_station_14 : decode cX7_station 14 = .ok (.invokevirtual 54, 3) := by decide +kernel
theorem dX7_station_17 : decode cX7_station 17 = .ok (.ifCond .lt 6, 3) := by decide +kernel
theorem dX7_station_20 : decode cX7_station 20 = .ok (.bipush (-3), 2) := by decide +kernel
theorem dX7_station_22 : decode cX7_station 22 = .ok (.ireturn, 1) := by decide +kernel
theorem dX7_station_23 : decode cX7_station 23 = .ok (.aload_n 0, 1) := by decide +kernel
theorem dX7_station_24 : decode cX7_station 24 = .ok (.getfield 11, 3) := by decide +kernel
theorem dX7_station_27 : decode cX7_station 27 = .ok (.iconst 0, 1) := by decide +kernel
theorem dX7_station_28 : decode cX7_station 28 = .ok (.iaload, 1) := by decide +kernel
theorem dX7_station_29 : decode cX7_station 29 = .ok (.istore_n 3, 1) := by decide +kernel
theorem dX7_station_30 : decode cX7_station 30 = .ok (.iload_n 3, 1) := by decide +kernel
theorem dX7_station_31 : decode cX7_station 31 = .ok (.bipush 8, 2) := by decide +kernel
theorem dX7_station_33 : decode cX7_station 33 = .ok (.if_icmp .ne 6, 3) := by decide +kernel
theorem dX7_station_36 : decode cX7_station 36 = .ok (.bipush (-4), 2) := by decide +kernel
theorem dX7_station_38 : decode cX7_station 38 = .ok (.ireturn, 1) := by decide +kernel
theorem dX7_station_39 : decode cX7_station 39 = .ok (.aload_n 0, 1) := by decide +kernel
theorem dX7_station_40 : decode cX7_station 40 = .ok (.getfield 11, 3) := by decide +kernel
theorem dX7_station_43 : decode cX7_station 43 = .ok (.iconst 4, 1) := by decide +kernel
theorem dX7_station_44 : decode cX7_station 44 = .ok (.iconst 4, 1) := by decide +kernel
theorem dX7_station_45 : decode cX7_station 45 = .ok (.iload_n 3, 1) := by decide +kernel
theorem dX7_station_46 : decode cX7_station 46 = .ok (.imul, 1) := by decide +kernel
theorem dX7_station_47 : decode cX7_station 47 = .ok (.iadd, 1) := by decide +kernel
theorem dX7_station_48 : decode cX7_station 48 = .ok (.iload_n 1, 1) := by decide +kernel
theorem dX7_station_49 : decode cX7_station 49 = .ok (.iastore, 1) := by decide +kernel
theorem dX7_station_50 : decode cX7_station 50 = .ok (.aload_n 0, 1) := by decide +kernel
theorem dX7_station_51 : decode cX7_station 51 = .ok (.getfield 11, 3) := by decide +kernel
theorem dX7_station_54 : decode cX7_station 54 = .ok (.iconst 4, 1) := by decide +kernel
theorem dX7_station_55 : decode cX7_station 55 = .ok (.iconst 4, 1) := by decide +kernel
theorem dX7_station_56 : decode cX7_station 56 = .ok (.iload_n 3, 1) := by decide +kernel
theorem dX7_station_57 : decode cX7_station 57 = .ok (.imul, 1) := by decide +kernel
theorem dX7_station_58 : decode cX7_station 58 = .ok (.iadd, 1) := by decide +kernel
theorem dX7_station_59 : decode cX7_station 59 = .ok (.iconst 1, 1) := by decide +kernel
theorem dX7_station_60 : decode cX7_station 60 = .ok (.iadd, 1) := by decide +kernel
theorem dX7_station_61 : decode cX7_station 61 = .ok (.iload_n 2, 1) := by decide +kernel
theorem dX7_station_62 : decode cX7_station 62 = .ok (.iastore, 1) := by decide +kernel
theorem dX7_station_63 : decode cX7_station 63 = .ok (.aload_n 0, 1) := by decide +kernel
theorem dX7_station_64 : decode cX7_station 64 = .ok (.getfield 11, 3) := by decide +kernel
theorem dX7_station_67 : decode cX7_station 67 = .ok (.iconst 4, 1) := by decide +kernel
theorem dX7_station_68 : decode cX7_station 68 = .ok (.iconst 4, 1) := by decide +kernel
theorem dX7_station_69 : decode cX7_station 69 = .ok (.iload_n 3, 1) := by decide +kernel
theorem dX7_station_70 : decode cX7_station 70 = .ok (.imul, 1) := by decide +kernel
theorem dX7_station_71 : decode cX7_station 71 = .ok (.iadd, 1) := by decide +kernel
theorem dX7_station_72 : decode cX7_station 72 = .ok (.iconst 2, 1) := by decide +kernel
theorem dX7_station_73 : decode cX7_station 73 = .ok (.iadd, 1) := by decide +kernel
theorem dX7_station_74 : decode cX7_station 74 = .ok (.iconst (-1), 1) := by decide +kernel
theorem dX7_station_75 : decode cX7_station 75 = .ok (.iastore, 1) := by decide +kernel
theorem dX7_station_76 : decode cX7_station 76 = .ok (.aload_n 0, 1) := by decide +kernel
theorem dX7_station_77 : decode cX7_station 77 = .ok (.getfield 11, 3) := by decide +kernel
theorem dX7_station_80 : decode cX7_station 80 = .ok (.iconst 4, 1) := by decide +kernel
theorem dX7_station_81 : decode cX7_station 81 = .ok (.iconst 4, 1) := by decide +kernel
theorem dX7_station_82 : decode cX7_station 82 = .ok (.iload_n 3, 1) := by decide +kernel
theorem dX7_station_83 : decode cX7_station 83 = .ok (.imul, 1) := by decide +kernel
theorem dX7_station_84 : decode cX7_station 84 = .ok (.iadd, 1) := by decide +kernel
theorem dX7_station_85 : decode cX7_station 85 = .ok (.iconst 3, 1) := by decide +kernel
theorem dX7_station_86 : decode cX7_station 86 = .ok (.iadd, 1) := by decide +kernel
theorem dX7_station_87 : decode cX7_station 87 = .ok (.iconst 0, 1) := by decide +kernel
theorem dX7_station_88 : decode cX7_station 88 = .ok (.iastore, 1) := by decide +kernel
theorem dX7_station_89 : decode cX7_station 89 = .ok (.aload_n 0, 1) := by decide +kernel
theorem dX7_station_90 : decode cX7_station 90 = .ok (.getfield 11, 3) := by decide +kernel
theorem dX7_station_93 : decode cX7_station 93 = .ok (.iconst 0, 1) := by decide +kernel
theorem dX7_station_94 : decode cX7_station 94 = .ok (.iload_n 3, 1) := by decide +kernel
theorem dX7_station_95 : decode cX7_station 95 = .ok (.iconst 1, 1) := by decide +kernel
theorem dX7_station_96 : decode cX7_station 96 = .ok (.iadd, 1) := by decide +kernel
theorem dX7_station_97 : decode cX7_station 97 = .ok (.iastore, 1) := by decide +kernel
theorem dX7_station_98 : decode cX7_station 98 = .ok (.iload_n 3, 1) := by decide +kernel
theorem dX7_station_99 : decode cX7_station 99 = .ok (.ireturn, 1) := by decide +kernel
theorem dX7_rule_0 : decode cX7_rule 0 = .ok (.iload_n 1, 1) := by decide +kernel
theorem dX7_rule_1 : decode cX7_rule 1 = .ok (.i2l, 1) := by decide +kernel
theorem dX7_rule_2 : decode cX7_rule 2 = .ok (.lconst 0, 1) := by decide +kernel
theorem dX7_rule_3 : decode cX7_rule 3 = .ok (.ldc2_w 58, 3) := by decide +kernel
theorem dX7_rule_6 : decode cX7_rule 6 = .ok (.invokestatic 37, 3) := by decide +kernel
theorem dX7_rule_9 : decode cX7_rule 9 = .ok (.ifCond .ne 5, 3) := by decide +kernel
theorem dX7_rule_12 : decode cX7_rule 12 = .ok (.iconst (-1), 1) := by decide +kernel
theorem dX7_rule_13 : decode cX7_rule 13 = .ok (.ireturn, 1) := by decide +kernel
theorem dX7_rule_14 : decode cX7_rule 14 = .ok (.iload_n 2, 1) := by decide +kernel
theorem dX7_rule_15 : decode cX7_rule 15 = .ok (.i2l, 1) := by decide +kernel
theorem dX7_rule_16 : decode cX7_rule 16 = .ok (.lconst 0, 1) := by decide +kernel
theorem dX7_rule_17 : decode cX7_rule 17 = .ok (.ldc2_w 60, 3) := by decide +kernel
theorem dX7_rule_20 : decode cX7_rule 20 = .ok (.invokestatic 37, 3) := by decide +kernel
theorem dX7_rule_23 : decode cX7_rule 23 = .ok (.ifCond .eq 15, 3) := by decide +kernel
theorem dX7_rule_26 : decode cX7_rule 26 = .ok (.iload_n 3, 1) := by decide +kernel
theorem dX7_rule_27 : decode cX7_rule 27 = .ok (.i2l, 1) := by decide +kernel
theorem dX7_rule_28 : decode cX7_rule 28 = .ok (.lconst 1, 1) := by decide +kernel
theorem dX7_rule_29 : decode cX7_rule 29 = .ok (.ldc2_w 62, 3) := by decide +kernel
theorem dX7_rule_32 : decode cX7_rule 32 = .ok (.invokestatic 37, 3) := by decide +kernel
theorem dX7_rule_35 : decode cX7_rule 35 = .ok (.ifCond .ne 6, 3) := by decide +kernel
theorem dX7_rule_38 : decode cX7_rule 38 = .ok (.bipush (-2), 2) := by decide +kernel
theorem dX7_rule_40 : decode cX7_rule 40 = .ok (.ireturn, 1) := by decide +kernel
theorem dX7_rule_41 : decode cX7_rule 41 = .ok (.bipush 100, 2) := by decide +kernel
theorem dX7_rule_43 : decode cX7_rule 43 = .ok (.aload_n 0, 1) := by decide +kernel
theorem dX7_rule_44 : decode cX7_rule 44 = .ok (.getfield 11, 3) := by decide +kernel
theorem dX7_rule_47 : decode cX7_rule 47 = .ok (.bipush 36, 2) := by decide +kernel
theorem dX7_rule_49 : decode cX7_rule 49 = .ok (.iconst 2, 1) := by decide +kernel
theorem dX7_rule_50 : decode cX7_rule 50 = .ok (.iload_n 1, 1) := by decide +kernel
theorem dX7_rule_51 : decode cX7_rule 51 = .ok (.imul, 1) := by decide +kernel
theorem dX7_rule_52 : decode cX7_rule 52 = .ok (.iadd, 1) := by decide +kernel
theorem dX7_rule_53 : decode cX7_rule 53 = .ok (.iaload, 1) := by decide +kernel
theorem dX7_rule_54 : decode cX7_rule 54 = .ok (.imul, 1) := by decide +kernel
theorem dX7_rule_55 : decode cX7_rule 55 = .ok (.aload_n 0, 1) := by decide +kernel
theorem dX7_rule_56 : decode cX7_rule 56 = .ok (.getfield 11, 3) := by decide +kernel
theorem dX7_rule_59 : decode cX7_rule 59 = .ok (.bipush 36, 2) := by decide +kernel
theorem dX7_rule_61 : decode cX7_rule 61 = .ok (.iconst 2, 1) := by decide +kernel
theorem dX7_rule_62 : decode cX7_rule 62 = .ok (.iload_n 1, 1) := by decide +kernel
theorem dX7_rule_63 : decode cX7_rule 63 = .ok (.imul, 1) := by decide +kernel
theorem dX7_rule_64 : decode cX7_rule 64 = .ok (.iadd, 1) := by decide +kernel
theorem dX7_rule_65 : decode cX7_rule 65 = .ok (.iconst 1, 1) := by decide +kernel
theorem dX7_rule_66 : decode cX7_rule 66 = .ok (.iadd, 1) := by decide +kernel
theorem dX7_rule_67 : decode cX7_rule 67 = .ok (.iaload, 1) := by decide +kernel
theorem dX7_rule_68 : decode cX7_rule 68 = .ok (.iadd, 1) := by decide +kernel
theorem dX7_rule_69 : decode cX7_rule 69 = .ok (.istore 4, 2) := by decide +kernel
theorem dX7_rule_71 : decode cX7_rule 71 = .ok (.aload_n 0, 1) := by decide +kernel
theorem dX7_rule_72 : decode cX7_rule 72 = .ok (.getfield 11, 3) := by decide +kernel
theorem dX7_rule_75 : decode cX7_rule 75 = .ok (.bipush 36, 2) := by decide +kernel
theorem dX7_rule_77 : decode cX7_rule 77 = .ok (.iconst 2, 1) := by decide +kernel
theorem dX7_rule_78 : decode cX7_rule 78 = .ok (.iload_n 1, 1) := by decide +kernel
theorem dX7_rule_79 : decode cX7_rule 79 = .ok (.imul, 1) := by decide +kernel
theorem dX7_rule_80 : decode cX7_rule 80 = .ok (.iadd, 1) := by decide +kernel
theorem dX7_rule_81 : decode cX7_rule 81 = .ok (.iload_n 2, 1) := by decide +kernel
theorem dX7_rule_82 : decode cX7_rule 82 = .ok (.iastore, 1) := by decide +kernel
theorem dX7_rule_83 : decode cX7_rule 83 = .ok (.aload_n 0, 1) := by decide +kernel
theorem dX7_rule_84 : decode cX7_rule 84 = .ok (.getfield 11, 3) := by decide +kernel
theorem dX7_rule_87 : decode cX7_rule 87 = .ok (.bipush 36, 2) := by decide +kernel
theorem dX7_rule_89 : decode cX7_rule 89 = .ok (.iconst 2, 1) := by decide +kernel
theorem dX7_rule_90 : decode cX7_rule 90 = .ok (.iload_n 1, 1) := by decide +kernel
theorem dX7_rule_91 : decode cX7_rule 91 = .ok (.imul, 1) := by decide +kernel
theorem dX7_rule_92 : decode cX7_rule 92 = .ok (.iadd, 1) := by decide +kernel
theorem dX7_rule_93 : decode cX7_rule 93 = .ok (.iconst 1, 1) := by decide +kernel
theorem dX7_rule_94 : decode cX7_rule 94 = .ok (.iadd, 1) := by decide +kernel
theorem dX7_rule_95 : decode cX7_rule 95 = .ok (.iload_n 3, 1) := by decide +kernel
theorem dX7_rule_96 : decode cX7_rule 96 = .ok (.iastore, 1) := by decide +kernel
theorem dX7_rule_97 : decode cX7_rule 97 = .ok (.iload 4, 2) := by decide +kernel
theorem dX7_rule_99 : decode cX7_rule 99 = .ok (.ireturn, 1) := by decide +kernel
theorem dX7_toldOf_0 : decode cX7_toldOf 0 = .ok (.iload_n 0, 1) := by decide +kernel
theorem dX7_toldOf_1 : decode cX7_toldOf 1 = .ok (.ifCond .ge 8, 3) := by decide +kernel
theorem dX7_toldOf_4 : decode cX7_toldOf 4 = .ok (.bipush (-5), 2) := by decide +kernel
theorem dX7_toldOf_6 : decode cX7_toldOf 6 = .ok (.goto 4, 3) := by decide +kernel
theorem dX7_toldOf_9 : decode cX7_toldOf 9 = .ok (.iload_n 0, 1) := by decide +kernel
theorem dX7_toldOf_10 : decode cX7_toldOf 10 = .ok (.ireturn, 1) := by decide +kernel
theorem dX7_channel_0 : decode cX7_channel 0 = .ok (.aload_n 0, 1) := by decide +kernel
theorem dX7_channel_1 : decode cX7_channel 1 = .ok (.iload_n 1, 1) := by decide +kernel
theorem dX7_channel_2 : decode cX7_channel 2 = .ok (.invokevirtual 64, 3) := by decide +kernel
theorem dX7_channel_5 : decode cX7_channel 5 = .ok (.ifCond .ne 5, 3) := by decide +kernel
theorem dX7_channel_8 : decode cX7_channel 8 = .ok (.iconst (-1), 1) := by decide +kernel
theorem dX7_channel_9 : decode cX7_channel 9 = .ok (.ireturn, 1) := by decide +kernel
theorem dX7_channel_10 : decode cX7_channel 10 = .ok (.iload_n 2, 1) := by decide +kernel
theorem dX7_channel_11 : decode cX7_channel 11 = .ok (.i2l, 1) := by decide +kernel
theorem dX7_channel_12 : decode cX7_channel 12 = .ok (.ldc2_w 68, 3) := by decide +kernel
theorem dX7_channel_15 : decode cX7_channel 15 = .ok (.ldc2_w 70, 3) := by decide +kernel
theorem dX7_channel_18 : decode cX7_channel 18 = .ok (.invokestatic 37, 3) := by decide +kernel
theorem dX7_channel_21 : decode cX7_channel 21 = .ok (.ifCond .ne 6, 3) := by decide +kernel
theorem dX7_channel_24 : decode cX7_channel 24 = .ok (.bipush (-2), 2) := by decide +kernel
theorem dX7_channel_26 : decode cX7_channel 26 = .ok (.ireturn, 1) := by decide +kernel
theorem dX7_channel_27 : decode cX7_channel 27 = .ok (.aload_n 0, 1) := by decide +kernel
theorem dX7_channel_28 : decode cX7_channel 28 = .ok (.iload_n 1, 1) := by decide +kernel
theorem dX7_channel_29 : decode cX7_channel 29 = .ok (.invokevirtual 72, 3) := by decide +kernel
theorem dX7_channel_32 : decode cX7_channel 32 = .ok (.ifCond .eq 10, 3) := by decide +kernel
theorem dX7_channel_35 : decode cX7_channel 35 = .ok (.iload_n 2, 1) := by decide +kernel
theorem dX7_channel_36 : decode cX7_channel 36 = .ok (.ifCond .lt 6, 3) := by decide +kernel
theorem dX7_channel_39 : decode cX7_channel 39 = .ok (.bipush (-3), 2) := by decide +kernel
theorem dX7_channel_41 : decode cX7_channel 41 = .ok (.ireturn, 1) := by decide +kernel
theorem dX7_channel_42 : decode cX7_channel 42 = .ok (.aload_n 0, 1) := by decide +kernel
theorem dX7_channel_43 : decode cX7_channel 43 = .ok (.iload_n 1, 1) := by decide +kernel
theorem dX7_channel_44 : decode cX7_channel 44 = .ok (.invokevirtual 75, 3) := by decide +kernel
theorem dX7_channel_47 : decode cX7_channel 47 = .ok (.istore_n 3, 1) := by decide +kernel
theorem dX7_channel_48 : decode cX7_channel 48 = .ok (.aload_n 0, 1) := by decide +kernel
theorem dX7_channel_49 : decode cX7_channel 49 = .ok (.iload_n 1, 1) := by decide +kernel
theorem dX7_channel_50 : decode cX7_channel 50 = .ok (.iload_n 2, 1) := by decide +kernel
theorem dX7_channel_51 : decode cX7_channel 51 = .ok (.invokevirtual 78, 3) := by decide +kernel
theorem dX7_channel_54 : decode cX7_channel 54 = .ok (.aload_n 0, 1) := by decide +kernel
theorem dX7_channel_55 : decode cX7_channel 55 = .ok (.getfield 11, 3) := by decide +kernel
theorem dX7_channel_58 : decode cX7_channel 58 = .ok (.iconst 4, 1) := by decide +kernel
theorem dX7_channel_59 : decode cX7_channel 59 = .ok (.iconst 4, 1) := by decide +kernel
theorem dX7_channel_60 : decode cX7_channel 60 = .ok (.iload_n 1, 1) := by decide +kernel
theorem dX7_channel_61 : decode cX7_channel 61 = .ok (.imul, 1) := by decide +kernel
theorem dX7_channel_62 : decode cX7_channel 62 = .ok (.iadd, 1) := by decide +kernel
theorem dX7_channel_63 : decode cX7_channel 63 = .ok (.iconst 3, 1) := by decide +kernel
theorem dX7_channel_64 : decode cX7_channel 64 = .ok (.iadd, 1) := by decide +kernel
theorem dX7_channel_65 : decode cX7_channel 65 = .ok (.iconst 0, 1) := by decide +kernel
theorem dX7_channel_66 : decode cX7_channel 66 = .ok (.iastore, 1) := by decide +kernel
theorem dX7_channel_67 : decode cX7_channel 67 = .ok (.iload_n 3, 1) := by decide +kernel
theorem dX7_channel_68 : decode cX7_channel 68 = .ok (.invokestatic 82, 3) := by decide +kernel
theorem dX7_channel_71 : decode cX7_channel 71 = .ok (.ireturn, 1) := by decide +kernel
theorem dX7_fix_0 : decode cX7_fix 0 = .ok (.aload_n 0, 1) := by decide +kernel
theorem dX7_fix_1 : decode cX7_fix 1 = .ok (.iload_n 1, 1) := by decide +kernel
theorem dX7_fix_2 : decode cX7_fix 2 = .ok (.invokevirtual 64, 3) := by decide +kernel
theorem dX7_fix_5 : decode cX7_fix 5 = .ok (.ifCond .ne 5, 3) := by decide +kernel
theorem dX7_fix_8 : decode cX7_fix 8 = .ok (.iconst (-1), 1) := by decide +kernel
theorem dX7_fix_9 : decode cX7_fix 9 = .ok (.ireturn, 1) := by decide +kernel
theorem dX7_fix_10 : decode cX7_fix 10 = .ok (.aload_n 0, 1) := by decide +kernel
theorem dX7_fix_11 : decode cX7_fix 11 = .ok (.iload_n 1, 1) := by decide +kernel
theorem dX7_fix_12 : decode cX7_fix 12 = .ok (.invokevirtual 75, 3) := by decide +kernel
theorem dX7_fix_15 : decode cX7_fix 15 = .ok (.ifCond .ge 6, 3) := by decide +kernel
theorem dX7_fix_18 : decode cX7_fix 18 = .ok (.bipush (-3), 2) := by decide +kernel
theorem dX7_fix_20 : decode cX7_fix 20 = .ok (.ireturn, 1) := by decide +kernel
theorem dX7_fix_21 : decode cX7_fix 21 = .ok (.aload_n 0, 1) := by decide +kernel
theorem dX7_fix_22 : decode cX7_fix 22 = .ok (.getfield 11, 3) := by decide +kernel
theorem dX7_fix_25 : decode cX7_fix 25 = .ok (.iconst 4, 1) := by decide +kernel
theorem dX7_fix_26 : decode cX7_fix 26 = .ok (.iconst 4, 1) := by decide +kernel
theorem dX7_fix_27 : decode cX7_fix 27 = .ok (.iload_n 1, 1) := by decide +kernel
theorem dX7_fix_28 : decode cX7_fix 28 = .ok (.imul, 1) := by decide +kernel
theorem dX7_fix_29 : decode cX7_fix 29 = .ok (.iadd, 1) := by decide +kernel
theorem dX7_fix_30 : decode cX7_fix 30 = .ok (.iconst 3, 1) := by decide +kernel
theorem dX7_fix_31 : decode cX7_fix 31 = .ok (.iadd, 1) := by decide +kernel
theorem dX7_fix_32 : decode cX7_fix 32 = .ok (.iaload, 1) := by decide +kernel
theorem dX7_fix_33 : decode cX7_fix 33 = .ok (.istore_n 3, 1) := by decide +kernel
theorem dX7_fix_34 : decode cX7_fix 34 = .ok (.aload_n 0, 1) := by decide +kernel
theorem dX7_fix_35 : decode cX7_fix 35 = .ok (.getfield 11, 3) := by decide +kernel
theorem dX7_fix_38 : decode cX7_fix 38 = .ok (.iconst 4, 1) := by decide +kernel
theorem dX7_fix_39 : decode cX7_fix 39 = .ok (.iconst 4, 1) := by decide +kernel
theorem dX7_fix_40 : decode cX7_fix 40 = .ok (.iload_n 1, 1) := by decide +kernel
theorem dX7_fix_41 : decode cX7_fix 41 = .ok (.imul, 1) := by decide +kernel
theorem dX7_fix_42 : decode cX7_fix 42 = .ok (.iadd, 1) := by decide +kernel
theorem dX7_fix_43 : decode cX7_fix 43 = .ok (.iconst 3, 1) := by decide +kernel
theorem dX7_fix_44 : decode cX7_fix 44 = .ok (.iadd, 1) := by decide +kernel
theorem dX7_fix_45 : decode cX7_fix 45 = .ok (.iload_n 2, 1) := by decide +kernel
theorem dX7_fix_46 : decode cX7_fix 46 = .ok (.ifCond .eq 7, 3) := by decide +kernel
theorem dX7_fix_49 : decode cX7_fix 49 = .ok (.iconst 1, 1) := by decide +kernel
theorem dX7_fix_50 : decode cX7_fix 50 = .ok (.goto 4, 3) := by decide +kernel
theorem dX7_fix_53 : decode cX7_fix 53 = .ok (.iconst 0, 1) := by decide +kernel
theorem dX7_fix_54 : decode cX7_fix 54 = .ok (.iastore, 1) := by decide +kernel
theorem dX7_fix_55 : decode cX7_fix 55 = .ok (.iload_n 3, 1) := by decide +kernel
theorem dX7_fix_56 : decode cX7_fix 56 = .ok (.ireturn, 1) := by decide +kernel
theorem dX7_square_0 : decode cX7_square 0 = .ok (.iload_n 0, 1) := by decide +kernel
theorem dX7_square_1 : decode cX7_square 1 = .ok (.iload_n 0, 1) := by decide +kernel
theorem dX7_square_2 : decode cX7_square 2 = .ok (.imul, 1) := by decide +kernel
theorem dX7_square_3 : decode cX7_square 3 = .ok (.ireturn, 1) := by decide +kernel
theorem dX7_move_0 : decode cX7_move 0 = .ok (.aload_n 0, 1) := by decide +kernel
theorem dX7_move_1 : decode cX7_move 1 = .ok (.iload_n 1, 1) := by decide +kernel
theorem dX7_move_2 : decode cX7_move 2 = .ok (.invokevirtual 64, 3) := by decide +kernel
theorem dX7_move_5 : decode cX7_move 5 = .ok (.ifCond .ne 5, 3) := by decide +kernel
theorem dX7_move_8 : decode cX7_move 8 = .ok (.iconst (-1), 1) := by decide +kernel
theorem dX7_move_9 : decode cX7_move 9 = .ok (.ireturn, 1) := by decide +kernel
theorem dX7_move_10 : decode cX7_move 10 = .ok (.iload_n 2, 1) := by decide +kernel
theorem dX7_move_11 : decode cX7_move 11 = .ok (.iload_n 3, 1) := by decide +kernel
theorem dX7_move_12 : decode cX7_move 12 = .ok (.invokestatic 50, 3) := by decide +kernel
theorem dX7_move_15 : decode cX7_move 15 = .ok (.ifCond .ne 6, 3) := by decide +kernel
theorem dX7_move_18 : decode cX7_move 18 = .ok (.bipush (-2), 2) := by decide +kernel
theorem dX7_move_20 : decode cX7_move 20 = .ok (.ireturn, 1) := by decide +kernel
theorem dX7_move_21 : decode cX7_move 21 = .ok (.aload_n 0, 1) := by decide +kernel
theorem dX7_move_22 : decode cX7_move 22 = .ok (.iload_n 2, 1) := by decide +kernel
theorem dX7_move_23 : decode cX7_move 23 = .ok (.iload_n 3, 1) := by decide +kernel
theorem dX7_move_24 : decode cX7_move 24 = .ok (.invokevirtual 54, 3) := by decide +kernel
theorem dX7_move_27 : decode cX7_move 27 = .ok (.istore 4, 2) := by decide +kernel
theorem dX7_move_29 : decode cX7_move 29 = .ok (.iload 4, 2) := by decide +kernel
theorem dX7_move_31 : decode cX7_move 31 = .ok (.ifCond .lt 12, 3) := by decide +kernel
theorem dX7_move_34 : decode cX7_move 34 = .ok (.iload 4, 2) := by decide +kernel
theorem dX7_move_36 : decode cX7_move 36 = .ok (.iload_n 1, 1) := by decide +kernel
theorem dX7_move_37 : decode cX7_move 37 = .ok (.if_icmp .eq 6, 3) := by decide +kernel
theorem dX7_move_40 : decode cX7_move 40 = .ok (.bipush (-3), 2) := by decide +kernel
theorem dX7_move_42 : decode cX7_move 42 = .ok (.ireturn, 1) := by decide +kernel
theorem dX7_move_43 : decode cX7_move 43 = .ok (.iload_n 2, 1) := by decide +kernel
theorem dX7_move_44 : decode cX7_move 44 = .ok (.aload_n 0, 1) := by decide +kernel
theorem dX7_move_45 : decode cX7_move 45 = .ok (.iload_n 1, 1) := by decide +kernel
theorem dX7_move_46 : decode cX7_move 46 = .ok (.invokevirtual 41, 3) := by decide +kernel
theorem dX7_move_49 : decode cX7_move 49 = .ok (.isub, 1) := by decide +kernel
theorem dX7_move_50 : decode cX7_move 50 = .ok (.invokestatic 85, 3) := by decide +kernel
theorem dX7_move_53 : decode cX7_move 53 = .ok (.iload_n 3, 1) := by decide +kernel
theorem dX7_move_54 : decode cX7_move 54 = .ok (.aload_n 0, 1) := by decide +kernel
theorem dX7_move_55 : decode cX7_move 55 = .ok (.iload_n 1, 1) := by decide +kernel
theorem dX7_move_56 : decode cX7_move 56 = .ok (.invokevirtual 45, 3) := by decide +kernel
theorem dX7_move_59 : decode cX7_move 59 = .ok (.isub, 1) := by decide +kernel
theorem dX7_move_60 : decode cX7_move 60 = .ok (.invokestatic 85, 3) := by decide +kernel
theorem dX7_move_63 : decode cX7_move 63 = .ok (.iadd, 1) := by decide +kernel
theorem dX7_move_64 : decode cX7_move 64 = .ok (.istore 5, 2) := by decide +kernel
theorem dX7_move_66 : decode cX7_move 66 = .ok (.aload_n 0, 1) := by decide +kernel
theorem dX7_move_67 : decode cX7_move 67 = .ok (.getfield 11, 3) := by decide +kernel
theorem dX7_move_70 : decode cX7_move 70 = .ok (.iconst 4, 1) := by decide +kernel
theorem dX7_move_71 : decode cX7_move 71 = .ok (.iconst 4, 1) := by decide +kernel
theorem dX7_move_72 : decode cX7_move 72 = .ok (.iload_n 1, 1) := by decide +kernel
theorem dX7_move_73 : decode cX7_move 73 = .ok (.imul, 1) := by decide +kernel
theorem dX7_move_74 : decode cX7_move 74 = .ok (.iadd, 1) := by decide +kernel
theorem dX7_move_75 : decode cX7_move 75 = .ok (.iload_n 2, 1) := by decide +kernel
theorem dX7_move_76 : decode cX7_move 76 = .ok (.iastore, 1) := by decide +kernel
theorem dX7_move_77 : decode cX7_move 77 = .ok (.aload_n 0, 1) := by decide +kernel
theorem dX7_move_78 : decode cX7_move 78 = .ok (.getfield 11, 3) := by decide +kernel
theorem dX7_move_81 : decode cX7_move 81 = .ok (.iconst 4, 1) := by decide +kernel
theorem dX7_move_82 : decode cX7_move 82 = .ok (.iconst 4, 1) := by decide +kernel
theorem dX7_move_83 : decode cX7_move 83 = .ok (.iload_n 1, 1) := by decide +kernel
theorem dX7_move_84 : decode cX7_move 84 = .ok (.imul, 1) := by decide +kernel
theorem dX7_move_85 : decode cX7_move 85 = .ok (.iadd, 1) := by decide +kernel
theorem dX7_move_86 : decode cX7_move 86 = .ok (.iconst 1, 1) := by decide +kernel
theorem dX7_move_87 : decode cX7_move 87 = .ok (.iadd, 1) := by decide +kernel
theorem dX7_move_88 : decode cX7_move 88 = .ok (.iload_n 3, 1) := by decide +kernel
theorem dX7_move_89 : decode cX7_move 89 = .ok (.iastore, 1) := by decide +kernel
theorem dX7_move_90 : decode cX7_move 90 = .ok (.iload 5, 2) := by decide +kernel
theorem dX7_move_92 : decode cX7_move 92 = .ok (.ireturn, 1) := by decide +kernel
theorem dX7_feed_0 : decode cX7_feed 0 = .ok (.iload_n 1, 1) := by decide +kernel
theorem dX7_feed_1 : decode cX7_feed 1 = .ok (.i2l, 1) := by decide +kernel
theorem dX7_feed_2 : decode cX7_feed 2 = .ok (.lconst 0, 1) := by decide +kernel
theorem dX7_feed_3 : decode cX7_feed 3 = .ok (.ldc2_w 88, 3) := by decide +kernel
theorem dX7_feed_6 : decode cX7_feed 6 = .ok (.invokestatic 37, 3) := by decide +kernel
theorem dX7_feed_9 : decode cX7_feed 9 = .ok (.ifCond .ne 6, 3) := by decide +kernel
theorem dX7_feed_12 : decode cX7_feed 12 = .ok (.bipush (-2), 2) := by decide +kernel
theorem dX7_feed_14 : decode cX7_feed 14 = .ok (.ireturn, 1) := by decide +kernel
theorem dX7_feed_15 : decode cX7_feed 15 = .ok (.aload_n 0, 1) := by decide +kernel
theorem dX7_feed_16 : decode cX7_feed 16 = .ok (.getfield 90, 3) := by decide +kernel
theorem dX7_feed_19 : decode cX7_feed 19 = .ok (.bipush 100, 2) := by decide +kernel
theorem dX7_feed_21 : decode cX7_feed 21 = .ok (.if_icmp .ne 6, 3) := by decide +kernel
theorem dX7_feed_24 : decode cX7_feed 24 = .ok (.bipush (-4), 2) := by decide +kernel
theorem dX7_feed_26 : decode cX7_feed 26 = .ok (.ireturn, 1) := by decide +kernel
theorem dX7_feed_27 : decode cX7_feed 27 = .ok (.aload_n 0, 1) := by decide +kernel
theorem dX7_feed_28 : decode cX7_feed 28 = .ok (.getfield 21, 3) := by decide +kernel
theorem dX7_feed_31 : decode cX7_feed 31 = .ok (.aload_n 0, 1) := by decide +kernel
theorem dX7_feed_32 : decode cX7_feed 32 = .ok (.getfield 90, 3) := by decide +kernel
theorem dX7_feed_35 : decode cX7_feed 35 = .ok (.iload_n 1, 1) := by decide +kernel
theorem dX7_feed_36 : decode cX7_feed 36 = .ok (.iastore, 1) := by decide +kernel
theorem dX7_feed_37 : decode cX7_feed 37 = .ok (.aload_n 0, 1) := by decide +kernel
theorem dX7_feed_38 : decode cX7_feed 38 = .ok (.dup, 1) := by decide +kernel
theorem dX7_feed_39 : decode cX7_feed 39 = .ok (.getfield 90, 3) := by decide +kernel
theorem dX7_feed_42 : decode cX7_feed 42 = .ok (.iconst 1, 1) := by decide +kernel
theorem dX7_feed_43 : decode cX7_feed 43 = .ok (.iadd, 1) := by decide +kernel
theorem dX7_feed_44 : decode cX7_feed 44 = .ok (.putfield 90, 3) := by decide +kernel
theorem dX7_feed_47 : decode cX7_feed 47 = .ok (.aload_n 0, 1) := by decide +kernel
theorem dX7_feed_48 : decode cX7_feed 48 = .ok (.getfield 90, 3) := by decide +kernel
theorem dX7_feed_51 : decode cX7_feed 51 = .ok (.ireturn, 1) := by decide +kernel
theorem dX7_byteAt_0 : decode cX7_byteAt 0 = .ok (.iload_n 1, 1) := by decide +kernel
theorem dX7_byteAt_1 : decode cX7_byteAt 1 = .ok (.aload_n 0, 1) := by decide +kernel
theorem dX7_byteAt_2 : decode cX7_byteAt 2 = .ok (.getfield 90, 3) := by decide +kernel
theorem dX7_byteAt_5 : decode cX7_byteAt 5 = .ok (.if_icmp .ge 12, 3) := by decide +kernel
theorem dX7_byteAt_8 : decode cX7_byteAt 8 = .ok (.aload_n 0, 1) := by decide +kernel
theorem dX7_byteAt_9 : decode cX7_byteAt 9 = .ok (.getfield 21, 3) := by decide +kernel
theorem dX7_byteAt_12 : decode cX7_byteAt 12 = .ok (.iload_n 1, 1) := by decide +kernel
theorem dX7_byteAt_13 : decode cX7_byteAt 13 = .ok (.iaload, 1) := by decide +kernel
theorem dX7_byteAt_14 : decode cX7_byteAt 14 = .ok (.goto 4, 3) := by decide +kernel
theorem dX7_byteAt_17 : decode cX7_byteAt 17 = .ok (.iconst (-1), 1) := by decide +kernel
theorem dX7_byteAt_18 : decode cX7_byteAt 18 = .ok (.ireturn, 1) := by decide +kernel
theorem dX7_isNumber_0 : decode cX7_isNumber 0 = .ok (.aload_n 0, 1) := by decide +kernel
theorem dX7_isNumber_1 : decode cX7_isNumber 1 = .ok (.aload_n 0, 1) := by decide +kernel
theorem dX7_isNumber_2 : decode cX7_isNumber 2 = .ok (.getfield 94, 3) := by decide +kernel
theorem dX7_isNumber_5 : decode cX7_isNumber 5 = .ok (.invokevirtual 97, 3) := by decide +kernel
theorem dX7_isNumber_8 : decode cX7_isNumber 8 = .ok (.istore_n 3, 1) := by decide +kernel
theorem dX7_isNumber_9 : decode cX7_isNumber 9 = .ok (.iload_n 3, 1) := by decide +kernel
theorem dX7_isNumber_10 : decode cX7_isNumber 10 = .ok (.i2l, 1) := by decide +kernel
theorem dX7_isNumber_11 : decode cX7_isNumber 11 = .ok (.ldc2_w 100, 3) := by decide +kernel
theorem dX7_isNumber_14 : decode cX7_isNumber 14 = .ok (.ldc2_w 102, 3) := by decide +kernel
theorem dX7_isNumber_17 : decode cX7_isNumber 17 = .ok (.invokestatic 37, 3) := by decide +kernel
theorem dX7_isNumber_20 : decode cX7_isNumber 20 = .ok (.ifCond .ne 5, 3) := by decide +kernel
theorem dX7_isNumber_23 : decode cX7_isNumber 23 = .ok (.iconst 0, 1) := by decide +kernel
theorem dX7_isNumber_24 : decode cX7_isNumber 24 = .ok (.ireturn, 1) := by decide +kernel
theorem dX7_isNumber_25 : decode cX7_isNumber 25 = .ok (.aload_n 0, 1) := by decide +kernel
theorem dX7_isNumber_26 : decode cX7_isNumber 26 = .ok (.dup, 1) := by decide +kernel
theorem dX7_isNumber_27 : decode cX7_isNumber 27 = .ok (.getfield 94, 3) := by decide +kernel
theorem dX7_isNumber_30 : decode cX7_isNumber 30 = .ok (.iconst 1, 1) := by decide +kernel
theorem dX7_isNumber_31 : decode cX7_isNumber 31 = .ok (.iadd, 1) := by decide +kernel
theorem dX7_isNumber_32 : decode cX7_isNumber 32 = .ok (.putfield 94, 3) := by decide +kernel
theorem dX7_isNumber_35 : decode cX7_isNumber 35 = .ok (.iload_n 3, 1) := by decide +kernel
theorem dX7_isNumber_36 : decode cX7_isNumber 36 = .ok (.bipush 48, 2) := by decide +kernel
theorem dX7_isNumber_38 : decode cX7_isNumber 38 = .ok (.isub, 1) := by decide +kernel
theorem dX7_isNumber_39 : decode cX7_isNumber 39 = .ok (.istore 4, 2) := by decide +kernel
theorem dX7_isNumber_41 : decode cX7_isNumber 41 = .ok (.aload_n 0, 1) := by decide +kernel
theorem dX7_isNumber_42 : decode cX7_isNumber 42 = .ok (.aload_n 0, 1) := by decide +kernel
theorem dX7_isNumber_43 : decode cX7_isNumber 43 = .ok (.getfield 94, 3) := by decide +kernel
theorem dX7_isNumber_46 : decode cX7_isNumber 46 = .ok (.invokevirtual 97, 3) := by decide +kernel
theorem dX7_isNumber_49 : decode cX7_isNumber 49 = .ok (.istore 5, 2) := by decide +kernel
theorem dX7_isNumber_51 : decode cX7_isNumber 51 = .ok (.iload 5, 2) := by decide +kernel
theorem dX7_isNumber_53 : decode cX7_isNumber 53 = .ok (.i2l, 1) := by decide +kernel
theorem dX7_isNumber_54 : decode cX7_isNumber 54 = .ok (.ldc2_w 100, 3) := by decide +kernel
theorem dX7_isNumber_57 : decode cX7_isNumber 57 = .ok (.ldc2_w 102, 3) := by decide +kernel
theorem dX7_isNumber_60 : decode cX7_isNumber 60 = .ok (.invokestatic 37, 3) := by decide +kernel
theorem dX7_isNumber_63 : decode cX7_isNumber 63 = .ok (.ifCond .eq 34, 3) := by decide +kernel
theorem dX7_isNumber_66 : decode cX7_isNumber 66 = .ok (.bipush 10, 2) := by decide +kernel
theorem dX7_isNumber_68 : decode cX7_isNumber 68 = .ok (.iload 4, 2) := by decide +kernel
theorem dX7_isNumber_70 : decode cX7_isNumber 70 = .ok (.imul, 1) := by decide +kernel
theorem dX7_isNumber_71 : decode cX7_isNumber 71 = .ok (.iload 5, 2) := by decide +kernel
theorem dX7_isNumber_73 : decode cX7_isNumber 73 = .ok (.iadd, 1) := by decide +kernel
theorem dX7_isNumber_74 : decode cX7_isNumber 74 = .ok (.bipush 48, 2) := by decide +kernel
theorem dX7_isNumber_76 : decode cX7_isNumber 76 = .ok (.isub, 1) := by decide +kernel
theorem dX7_isNumber_77 : decode cX7_isNumber 77 = .ok (.istore 4, 2) := by decide +kernel
theorem dX7_isNumber_79 : decode cX7_isNumber 79 = .ok (.iload 4, 2) := by decide +kernel
theorem dX7_isNumber_81 : decode cX7_isNumber 81 = .ok (.iload_n 2, 1) := by decide +kernel
theorem dX7_isNumber_82 : decode cX7_isNumber 82 = .ok (.if_icmp .le 5, 3) := by decide +kernel
theorem dX7_isNumber_85 : decode cX7_isNumber 85 = .ok (.iconst 0, 1) := by decide +kernel
theorem dX7_isNumber_86 : decode cX7_isNumber 86 = .ok (.ireturn, 1) := by decide +kernel
theorem dX7_isNumber_87 : decode cX7_isNumber 87 = .ok (.aload_n 0, 1) := by decide +kernel
theorem dX7_isNumber_88 : decode cX7_isNumber 88 = .ok (.dup, 1) := by decide +kernel
theorem dX7_isNumber_89 : decode cX7_isNumber 89 = .ok (.getfield 94, 3) := by decide +kernel
theorem dX7_isNumber_92 : decode cX7_isNumber 92 = .ok (.iconst 1, 1) := by decide +kernel
theorem dX7_isNumber_93 : decode cX7_isNumber 93 = .ok (.iadd, 1) := by decide +kernel
theorem dX7_isNumber_94 : decode cX7_isNumber 94 = .ok (.putfield 94, 3) := by decide +kernel
theorem dX7_isNumber_97 : decode cX7_isNumber 97 = .ok (.aload_n 0, 1) := by decide +kernel
theorem dX7_isNumber_98 : decode cX7_isNumber 98 = .ok (.getfield 24, 3) := by decide +kernel
theorem dX7_isNumber_101 : decode cX7_isNumber 101 = .ok (.iload_n 1, 1) := by decide +kernel
theorem dX7_isNumber_102 : decode cX7_isNumber 102 = .ok (.iload 4, 2) := by decide +kernel
theorem dX7_isNumber_104 : decode cX7_isNumber 104 = .ok (.iastore, 1) := by decide +kernel
theorem dX7_isNumber_105 : decode cX7_isNumber 105 = .ok (.iconst 1, 1) := by decide +kernel
theorem dX7_isNumber_106 : decode cX7_isNumber 106 = .ok (.ireturn, 1) := by decide +kernel
theorem dX7_isClause_0 : decode cX7_isClause 0 = .ok (.aload_n 0, 1) := by decide +kernel
theorem dX7_isClause_1 : decode cX7_isClause 1 = .ok (.iconst 4, 1) := by decide +kernel
theorem dX7_isClause_2 : decode cX7_isClause 2 = .ok (.iload_n 1, 1) := by decide +kernel
theorem dX7_isClause_3 : decode cX7_isClause 3 = .ok (.imul, 1) := by decide +kernel
theorem dX7_isClause_4 : decode cX7_isClause 4 = .ok (.bipush 31, 2) := by decide +kernel
theorem dX7_isClause_6 : decode cX7_isClause 6 = .ok (.invokevirtual 104, 3) := by decide +kernel
theorem dX7_isClause_9 : decode cX7_isClause 9 = .ok (.ifCond .eq 16, 3) := by decide +kernel
theorem dX7_isClause_12 : decode cX7_isClause 12 = .ok (.aload_n 0, 1) := by decide +kernel
theorem dX7_isClause_13 : decode cX7_isClause 13 = .ok (.aload_n 0, 1) := by decide +kernel
theorem dX7_isClause_14 : decode cX7_isClause 14 = .ok (.getfield 94, 3) := by decide +kernel
theorem dX7_isClause_17 : decode cX7_isClause 17 = .ok (.invokevirtual 97, 3) := by decide +kernel
theorem dX7_isClause_20 : decode cX7_isClause 20 = .ok (.bipush 44, 2) := by decide +kernel
theorem dX7_isClause_22 : decode cX7_isClause 22 = .ok (.if_icmp .eq 5, 3) := by decide +kernel
theorem dX7_isClause_25 : decode cX7_isClause 25 = .ok (.iconst 0, 1) := by decide +kernel
theorem dX7_isClause_26 : decode cX7_isClause 26 = .ok (.ireturn, 1) := by decide +kernel
theorem dX7_isClause_27 : decode cX7_isClause 27 = .ok (.aload_n 0, 1) := by decide +kernel
theorem dX7_isClause_28 : decode cX7_isClause 28 = .ok (.dup, 1) := by decide +kernel
theorem dX7_isClause_29 : decode cX7_isClause 29 = .ok (.getfield 94, 3) := by decide +kernel
theorem dX7_isClause_32 : decode cX7_isClause 32 = .ok (.iconst 1, 1) := by decide +kernel
theorem dX7_isClause_33 : decode cX7_isClause 33 = .ok (.iadd, 1) := by decide +kernel
theorem dX7_isClause_34 : decode cX7_isClause 34 = .ok (.putfield 94, 3) := by decide +kernel
theorem dX7_isClause_37 : decode cX7_isClause 37 = .ok (.aload_n 0, 1) := by decide +kernel
theorem dX7_isClause_38 : decode cX7_isClause 38 = .ok (.iconst 4, 1) := by decide +kernel
theorem dX7_isClause_39 : decode cX7_isClause 39 = .ok (.iload_n 1, 1) := by decide +kernel
theorem dX7_isClause_40 : decode cX7_isClause 40 = .ok (.imul, 1) := by decide +kernel
theorem dX7_isClause_41 : decode cX7_isClause 41 = .ok (.iconst 1, 1) := by decide +kernel
theorem dX7_isClause_42 : decode cX7_isClause 42 = .ok (.iadd, 1) := by decide +kernel
theorem dX7_isClause_43 : decode cX7_isClause 43 = .ok (.bipush 31, 2) := by decide +kernel
theorem dX7_isClause_45 : decode cX7_isClause 45 = .ok (.invokevirtual 104, 3) := by decide +kernel
theorem dX7_isClause_48 : decode cX7_isClause 48 = .ok (.ifCond .ne 5, 3) := by decide +kernel
theorem dX7_isClause_51 : decode cX7_isClause 51 = .ok (.iconst 0, 1) := by decide +kernel
theorem dX7_isClause_52 : decode cX7_isClause 52 = .ok (.ireturn, 1) := by decide +kernel
theorem dX7_isClause_53 : decode cX7_isClause 53 = .ok (.aload_n 0, 1) := by decide +kernel
theorem dX7_isClause_54 : decode cX7_isClause 54 = .ok (.getfield 24, 3) := by decide +kernel
theorem dX7_isClause_57 : decode cX7_isClause 57 = .ok (.iconst 4, 1) := by decide +kernel
theorem dX7_isClause_58 : decode cX7_isClause 58 = .ok (.iload_n 1, 1) := by decide +kernel
theorem dX7_isClause_59 : decode cX7_isClause 59 = .ok (.imul, 1) := by decide +kernel
theorem dX7_isClause_60 : decode cX7_isClause 60 = .ok (.iconst 2, 1) := by decide +kernel
theorem dX7_isClause_61 : decode cX7_isClause 61 = .ok (.iadd, 1) := by decide +kernel
theorem dX7_isClause_62 : decode cX7_isClause 62 = .ok (.iconst (-1), 1) := by decide +kernel
theorem dX7_isClause_63 : decode cX7_isClause 63 = .ok (.iastore, 1) := by decide +kernel
theorem dX7_isClause_64 : decode cX7_isClause 64 = .ok (.aload_n 0, 1) := by decide +kernel
theorem dX7_isClause_65 : decode cX7_isClause 65 = .ok (.getfield 24, 3) := by decide +kernel
theorem dX7_isClause_68 : decode cX7_isClause 68 = .ok (.iconst 4, 1) := by decide +kernel
theorem dX7_isClause_69 : decode cX7_isClause 69 = .ok (.iload_n 1, 1) := by decide +kernel
theorem dX7_isClause_70 : decode cX7_isClause 70 = .ok (.imul, 1) := by decide +kernel
theorem dX7_isClause_71 : decode cX7_isClause 71 = .ok (.iconst 3, 1) := by decide +kernel
theorem dX7_isClause_72 : decode cX7_isClause 72 = .ok (.iadd, 1) := by decide +kernel
theorem dX7_isClause_73 : decode cX7_isClause 73 = .ok (.iconst 0, 1) := by decide +kernel
theorem dX7_isClause_74 : decode cX7_isClause 74 = .ok (.iastore, 1) := by decide +kernel
theorem dX7_isClause_75 : decode cX7_isClause 75 = .ok (.aload_n 0, 1) := by decide +kernel
theorem dX7_isClause_76 : decode cX7_isClause 76 = .ok (.aload_n 0, 1) := by decide +kernel
theorem dX7_isClause_77 : decode cX7_isClause 77 = .ok (.getfield 94, 3) := by decide +kernel
theorem dX7_isClause_80 : decode cX7_isClause 80 = .ok (.invokevirtual 97, 3) := by decide +kernel
theorem dX7_isClause_83 : decode cX7_isClause 83 = .ok (.bipush 61, 2) := by decide +kernel
theorem dX7_isClause_85 : decode cX7_isClause 85 = .ok (.if_icmp .ne 63, 3) := by decide +kernel
theorem dX7_isClause_88 : decode cX7_isClause 88 = .ok (.aload_n 0, 1) := by decide +kernel
theorem dX7_isClause_89 : decode cX7_isClause 89 = .ok (.dup, 1) := by decide +kernel
theorem dX7_isClause_90 : decode cX7_isClause 90 = .ok (.getfield 94, 3) := by decide +kernel
theorem dX7_isClause_93 : decode cX7_isClause 93 = .ok (.iconst 1, 1) := by decide +kernel
theorem dX7_isClause_94 : decode cX7_isClause 94 = .ok (.iadd, 1) := by decide +kernel
theorem dX7_isClause_95 : decode cX7_isClause 95 = .ok (.putfield 94, 3) := by decide +kernel
theorem dX7_isClause_98 : decode cX7_isClause 98 = .ok (.aload_n 0, 1) := by decide +kernel
theorem dX7_isClause_99 : decode cX7_isClause 99 = .ok (.iconst 4, 1) := by decide +kernel
theorem dX7_isClause_100 : decode cX7_isClause 100 = .ok (.iload_n 1, 1) := by decide +kernel
theorem dX7_isClause_101 : decode cX7_isClause 101 = .ok (.imul, 1) := by decide +kernel
theorem dX7_isClause_102 : decode cX7_isClause 102 = .ok (.iconst 2, 1) := by decide +kernel
theorem dX7_isClause_103 : decode cX7_isClause 103 = .ok (.iadd, 1) := by decide +kernel
theorem dX7_isClause_104 : decode cX7_isClause 104 = .ok (.bipush 19, 2) := by decide +kernel
theorem dX7_isClause_106 : decode cX7_isClause 106 = .ok (.invokevirtual 104, 3) := by decide +kernel
theorem dX7_isClause_109 : decode cX7_isClause 109 = .ok (.ifCond .ne 5, 3) := by decide +kernel
theorem dX7_isClause_112 : decode cX7_isClause 112 = .ok (.iconst 0, 1) := by decide +kernel
theorem dX7_isClause_113 : decode cX7_isClause 113 = .ok (.ireturn, 1) := by decide +kernel
theorem dX7_isClause_114 : decode cX7_isClause 114 = .ok (.aload_n 0, 1) := by decide +kernel
theorem dX7_isClause_115 : decode cX7_isClause 115 = .ok (.aload_n 0, 1) := by decide +kernel
theorem dX7_isClause_116 : decode cX7_isClause 116 = .ok (.getfield 94, 3) := by decide +kernel
theorem dX7_isClause_119 : decode cX7_isClause 119 = .ok (.invokevirtual 97, 3) := by decide +kernel
theorem dX7_isClause_122 : decode cX7_isClause 122 = .ok (.bipush 33, 2) := by decide +kernel
theorem dX7_isClause_124 : decode cX7_isClause 124 = .ok (.if_icmp .ne 24, 3) := by decide +kernel
theorem dX7_isClause_127 : decode cX7_isClause 127 = .ok (.aload_n 0, 1) := by decide +kernel
theorem dX7_isClause_128 : decode cX7_isClause 128 = .ok (.dup, 1) := by decide +kernel
theorem dX7_isClause_129 : decode cX7_isClause 129 = .ok (.getfield 94, 3) := by decide +kernel
theorem dX7_isClause_132 : decode cX7_isClause 132 = .ok (.iconst 1, 1) := by decide +kernel
theorem dX7_isClause_133 : decode cX7_isClause 133 = .ok (.iadd, 1) := by decide +kernel
theorem dX7_isClause_134 : decode cX7_isClause 134 = .ok (.putfield 94, 3) := by decide +kernel
theorem dX7_isClause_137 : decode cX7_isClause 137 = .ok (.aload_n 0, 1) := by decide +kernel
theorem dX7_isClause_138 : decode cX7_isClause 138 = .ok (.getfield 24, 3) := by decide +kernel
theorem dX7_isClause_141 : decode cX7_isClause 141 = .ok (.iconst 4, 1) := by decide +kernel
theorem dX7_isClause_142 : decode cX7_isClause 142 = .ok (.iload_n 1, 1) := by decide +kernel
theorem dX7_isClause_143 : decode cX7_isClause 143 = .ok (.imul, 1) := by decide +kernel
theorem dX7_isClause_144 : decode cX7_isClause 144 = .ok (.iconst 3, 1) := by decide +kernel
theorem dX7_isClause_145 : decode cX7_isClause 145 = .ok (.iadd, 1) := by decide +kernel
theorem dX7_isClause_146 : decode cX7_isClause 146 = .ok (.iconst 1, 1) := by decide +kernel
theorem dX7_isClause_147 : decode cX7_isClause 147 = .ok (.iastore, 1) := by decide +kernel
theorem dX7_isClause_148 : decode cX7_isClause 148 = .ok (.iconst 1, 1) := by decide +kernel
theorem dX7_isClause_149 : decode cX7_isClause 149 = .ok (.ireturn, 1) := by decide +kernel
theorem dX7_read_0 : decode cX7_read 0 = .ok (.aload_n 0, 1) := by decide +kernel
theorem dX7_read_1 : decode cX7_read 1 = .ok (.iconst 0, 1) := by decide +kernel
theorem dX7_read_2 : decode cX7_read 2 = .ok (.putfield 94, 3) := by decide +kernel
theorem dX7_read_5 : decode cX7_read 5 = .ok (.iconst 0, 1) := by decide +kernel
theorem dX7_read_6 : decode cX7_read 6 = .ok (.istore_n 1, 1) := by decide +kernel
theorem dX7_read_7 : decode cX7_read 7 = .ok (.iconst 1, 1) := by decide +kernel
theorem dX7_read_8 : decode cX7_read 8 = .ok (.istore_n 2, 1) := by decide +kernel
theorem dX7_read_9 : decode cX7_read 9 = .ok (.iload_n 2, 1) := by decide +kernel
theorem dX7_read_10 : decode cX7_read 10 = .ok (.ifCond .eq 60, 3) := by decide +kernel
theorem dX7_read_13 : decode cX7_read 13 = .ok (.aload_n 0, 1) := by decide +kernel
theorem dX7_read_14 : decode cX7_read 14 = .ok (.iload_n 1, 1) := by decide +kernel
theorem dX7_read_15 : decode cX7_read 15 = .ok (.invokevirtual 107, 3) := by decide +kernel
theorem dX7_read_18 : decode cX7_read 18 = .ok (.istore_n 2, 1) := by decide +kernel
theorem dX7_read_19 : decode cX7_read 19 = .ok (.iload_n 1, 1) := by decide +kernel
theorem dX7_read_20 : decode cX7_read 20 = .ok (.iload_n 2, 1) := by decide +kernel
theorem dX7_read_21 : decode cX7_read 21 = .ok (.ifCond .eq 7, 3) := by decide +kernel
theorem dX7_read_24 : decode cX7_read 24 = .ok (.iconst 1, 1) := by decide +kernel
theorem dX7_read_25 : decode cX7_read 25 = .ok (.goto 4, 3) := by decide +kernel
theorem dX7_read_28 : decode cX7_read 28 = .ok (.iconst 0, 1) := by decide +kernel
theorem dX7_read_29 : decode cX7_read 29 = .ok (.iadd, 1) := by decide +kernel
theorem dX7_read_30 : decode cX7_read 30 = .ok (.istore_n 1, 1) := by decide +kernel
theorem dX7_read_31 : decode cX7_read 31 = .ok (.iload_n 2, 1) := by decide +kernel
theorem dX7_read_32 : decode cX7_read 32 = .ok (.ifCond .eq 38, 3) := by decide +kernel
theorem dX7_read_35 : decode cX7_read 35 = .ok (.iload_n 1, 1) := by decide +kernel
theorem dX7_read_36 : decode cX7_read 36 = .ok (.bipush 8, 2) := by decide +kernel
theorem dX7_read_38 : decode cX7_read 38 = .ok (.if_icmp .eq 32, 3) := by decide +kernel
theorem dX7_read_41 : decode cX7_read 41 = .ok (.aload_n 0, 1) := by decide +kernel
theorem dX7_read_42 : decode cX7_read 42 = .ok (.aload_n 0, 1) := by decide +kernel
theorem dX7_read_43 : decode cX7_read 43 = .ok (.getfield 94, 3) := by decide +kernel
theorem dX7_read_46 : decode cX7_read 46 = .ok (.invokevirtual 97, 3) := by decide +kernel
theorem dX7_read_49 : decode cX7_read 49 = .ok (.bipush 59, 2) := by decide +kernel
theorem dX7_read_51 : decode cX7_read 51 = .ok (.if_icmp .eq 6, 3) := by decide +kernel
theorem dX7_read_54 : decode cX7_read 54 = .ok (.goto 16, 3) := by decide +kernel
theorem dX7_read_57 : decode cX7_read 57 = .ok (.aload_n 0, 1) := by decide +kernel
theorem dX7_read_58 : decode cX7_read 58 = .ok (.dup, 1) := by decide +kernel
theorem dX7_read_59 : decode cX7_read 59 = .ok (.getfield 94, 3) := by decide +kernel
theorem dX7_read_62 : decode cX7_read 62 = .ok (.iconst 1, 1) := by decide +kernel
theorem dX7_read_63 : decode cX7_read 63 = .ok (.iadd, 1) := by decide +kernel
theorem dX7_read_64 : decode cX7_read 64 = .ok (.putfield 94, 3) := by decide +kernel
theorem dX7_read_67 : decode cX7_read 67 = .ok (.goto (-58), 3) := by decide +kernel
theorem dX7_read_70 : decode cX7_read 70 = .ok (.iload_n 2, 1) := by decide +kernel
theorem dX7_read_71 : decode cX7_read 71 = .ok (.ifCond .eq 18, 3) := by decide +kernel
theorem dX7_read_74 : decode cX7_read 74 = .ok (.aload_n 0, 1) := by decide +kernel
theorem dX7_read_75 : decode cX7_read 75 = .ok (.getfield 94, 3) := by decide +kernel
theorem dX7_read_78 : decode cX7_read 78 = .ok (.aload_n 0, 1) := by decide +kernel
theorem dX7_read_79 : decode cX7_read 79 = .ok (.getfield 90, 3) := by decide +kernel
theorem dX7_read_82 : decode cX7_read 82 = .ok (.if_icmp .ne 7, 3) := by decide +kernel
theorem dX7_read_85 : decode cX7_read 85 = .ok (.iconst 1, 1) := by decide +kernel
theorem dX7_read_86 : decode cX7_read 86 = .ok (.goto 4, 3) := by decide +kernel
theorem dX7_read_89 : decode cX7_read 89 = .ok (.iconst 0, 1) := by decide +kernel
theorem dX7_read_90 : decode cX7_read 90 = .ok (.istore_n 2, 1) := by decide +kernel
theorem dX7_read_91 : decode cX7_read 91 = .ok (.aload_n 0, 1) := by decide +kernel
theorem dX7_read_92 : decode cX7_read 92 = .ok (.iconst 0, 1) := by decide +kernel
theorem dX7_read_93 : decode cX7_read 93 = .ok (.putfield 90, 3) := by decide +kernel
theorem dX7_read_96 : decode cX7_read 96 = .ok (.iload_n 2, 1) := by decide +kernel
theorem dX7_read_97 : decode cX7_read 97 = .ok (.ifCond .ne 11, 3) := by decide +kernel
theorem dX7_read_100 : decode cX7_read 100 = .ok (.bipush (-10), 2) := by decide +kernel
theorem dX7_read_102 : decode cX7_read 102 = .ok (.aload_n 0, 1) := by decide +kernel
theorem dX7_read_103 : decode cX7_read 103 = .ok (.getfield 94, 3) := by decide +kernel
theorem dX7_read_106 : decode cX7_read 106 = .ok (.isub, 1) := by decide +kernel
theorem dX7_read_107 : decode cX7_read 107 = .ok (.ireturn, 1) := by decide +kernel
theorem dX7_read_108 : decode cX7_read 108 = .ok (.iconst 0, 1) := by decide +kernel
theorem dX7_read_109 : decode cX7_read 109 = .ok (.istore_n 3, 1) := by decide +kernel
theorem dX7_read_110 : decode cX7_read 110 = .ok (.iconst 0, 1) := by decide +kernel
theorem dX7_read_111 : decode cX7_read 111 = .ok (.istore 4, 2) := by decide +kernel
theorem dX7_read_113 : decode cX7_read 113 = .ok (.iload 4, 2) := by decide +kernel
theorem dX7_read_115 : decode cX7_read 115 = .ok (.iload_n 1, 1) := by decide +kernel
theorem dX7_read_116 : decode cX7_read 116 = .ok (.if_icmp .ge 84, 3) := by decide +kernel
theorem dX7_read_119 : decode cX7_read 119 = .ok (.aload_n 0, 1) := by decide +kernel
theorem dX7_read_120 : decode cX7_read 120 = .ok (.aload_n 0, 1) := by decide +kernel
theorem dX7_read_121 : decode cX7_read 121 = .ok (.getfield 24, 3) := by decide +kernel
theorem dX7_read_124 : decode cX7_read 124 = .ok (.iconst 4, 1) := by decide +kernel
theorem dX7_read_125 : decode cX7_read 125 = .ok (.iload 4, 2) := by decide +kernel
theorem dX7_read_127 : decode cX7_read 127 = .ok (.imul, 1) := by decide +kernel
theorem dX7_read_128 : decode cX7_read 128 = .ok (.iaload, 1) := by decide +kernel
theorem dX7_read_129 : decode cX7_read 129 = .ok (.aload_n 0, 1) := by decide +kernel
theorem dX7_read_130 : decode cX7_read 130 = .ok (.getfield 24, 3) := by decide +kernel
theorem dX7_read_133 : decode cX7_read 133 = .ok (.iconst 4, 1) := by decide +kernel
theorem dX7_read_134 : decode cX7_read 134 = .ok (.iload 4, 2) := by decide +kernel
theorem dX7_read_136 : decode cX7_read 136 = .ok (.imul, 1) := by decide +kernel
theorem dX7_read_137 : decode cX7_read 137 = .ok (.iconst 1, 1) := by decide +kernel
theorem dX7_read_138 : decode cX7_read 138 = .ok (.iadd, 1) := by decide +kernel
theorem dX7_read_139 : decode cX7_read 139 = .ok (.iaload, 1) := by decide +kernel
theorem dX7_read_140 : decode cX7_read 140 = .ok (.invokevirtual 110, 3) := by decide +kernel
theorem dX7_read_143 : decode cX7_read 143 = .ok (.istore 5, 2) := by decide +kernel
theorem dX7_read_145 : decode cX7_read 145 = .ok (.iload 5, 2) := by decide +kernel
theorem dX7_read_147 : decode cX7_read 147 = .ok (.ifCond .lt 47, 3) := by decide +kernel
theorem dX7_read_150 : decode cX7_read 150 = .ok (.aload_n 0, 1) := by decide +kernel
theorem dX7_read_151 : decode cX7_read 151 = .ok (.iload 5, 2) := by decide +kernel
theorem dX7_read_153 : decode cX7_read 153 = .ok (.aload_n 0, 1) := by decide +kernel
theorem dX7_read_154 : decode cX7_read 154 = .ok (.getfield 24, 3) := by decide +kernel
theorem dX7_read_157 : decode cX7_read 157 = .ok (.iconst 4, 1) := by decide +kernel
theorem dX7_read_158 : decode cX7_read 158 = .ok (.iload 4, 2) := by decide +kernel
theorem dX7_read_160 : decode cX7_read 160 = .ok (.imul, 1) := by decide +kernel
theorem dX7_read_161 : decode cX7_read 161 = .ok (.iconst 2, 1) := by decide +kernel
theorem dX7_read_162 : decode cX7_read 162 = .ok (.iadd, 1) := by decide +kernel
theorem dX7_read_163 : decode cX7_read 163 = .ok (.iaload, 1) := by decide +kernel
theorem dX7_read_164 : decode cX7_read 164 = .ok (.invokevirtual 78, 3) := by decide +kernel
theorem dX7_read_167 : decode cX7_read 167 = .ok (.aload_n 0, 1) := by decide +kernel
theorem dX7_read_168 : decode cX7_read 168 = .ok (.getfield 11, 3) := by decide +kernel
theorem dX7_read_171 : decode cX7_read 171 = .ok (.iconst 4, 1) := by decide +kernel
theorem dX7_read_172 : decode cX7_read 172 = .ok (.iconst 4, 1) := by decide +kernel
theorem dX7_read_173 : decode cX7_read 173 = .ok (.iload 5, 2) := by decide +kernel
theorem dX7_read_175 : decode cX7_read 175 = .ok (.imul, 1) := by decide +kernel
theorem dX7_read_176 : decode cX7_read 176 = .ok (.iadd, 1) := by decide +kernel
theorem dX7_read_177 : decode cX7_read 177 = .ok (.iconst 3, 1) := by decide +kernel
theorem dX7_read_178 : decode cX7_read 178 = .ok (.iadd, 1) := by decide +kernel
theorem dX7_read_179 : decode cX7_read 179 = .ok (.aload_n 0, 1) := by decide +kernel
theorem dX7_read_180 : decode cX7_read 180 = .ok (.getfield 24, 3) := by decide +kernel
theorem dX7_read_183 : decode cX7_read 183 = .ok (.iconst 4, 1) := by decide +kernel
theorem dX7_read_184 : decode cX7_read 184 = .ok (.iload 4, 2) := by decide +kernel
theorem dX7_read_186 : decode cX7_read 186 = .ok (.imul, 1) := by decide +kernel
theorem dX7_read_187 : decode cX7_read 187 = .ok (.iconst 3, 1) := by decide +kernel
theorem dX7_read_188 : decode cX7_read 188 = .ok (.iadd, 1) := by decide +kernel
theorem dX7_read_189 : decode cX7_read 189 = .ok (.iaload, 1) := by decide +kernel
theorem dX7_read_190 : decode cX7_read 190 = .ok (.iastore, 1) := by decide +kernel
theorem dX7_read_191 : decode cX7_read 191 = .ok (.iinc 3 1, 3) := by decide +kernel
theorem dX7_read_194 : decode cX7_read 194 = .ok (.iinc 4 1, 3) := by decide +kernel
theorem dX7_read_197 : decode cX7_read 197 = .ok (.goto (-84), 3) := by decide +kernel
theorem dX7_read_200 : decode cX7_read 200 = .ok (.iload_n 3, 1) := by decide +kernel
theorem dX7_read_201 : decode cX7_read 201 = .ok (.ireturn, 1) := by decide +kernel
theorem dX7_apartOf_0 : decode cX7_apartOf 0 = .ok (.aload_n 0, 1) := by decide +kernel
theorem dX7_apartOf_1 : decode cX7_apartOf 1 = .ok (.iload_n 1, 1) := by decide +kernel
theorem dX7_apartOf_2 : decode cX7_apartOf 2 = .ok (.invokevirtual 41, 3) := by decide +kernel
theorem dX7_apartOf_5 : decode cX7_apartOf 5 = .ok (.aload_n 0, 1) := by decide +kernel
theorem dX7_apartOf_6 : decode cX7_apartOf 6 = .ok (.iload_n 2, 1) := by decide +kernel
theorem dX7_apartOf_7 : decode cX7_apartOf 7 = .ok (.invokevirtual 41, 3) := by decide +kernel
theorem dX7_apartOf_10 : decode cX7_apartOf 10 = .ok (.isub, 1) := by decide +kernel
theorem dX7_apartOf_11 : decode cX7_apartOf 11 = .ok (.invokestatic 85, 3) := by decide +kernel
theorem dX7_apartOf_14 : decode cX7_apartOf 14 = .ok (.aload_n 0, 1) := by decide +kernel
theorem dX7_apartOf_15 : decode cX7_apartOf 15 = .ok (.iload_n 1, 1) := by decide +kernel
theorem dX7_apartOf_16 : decode cX7_apartOf 16 = .ok (.invokevirtual 45, 3) := by decide +kernel
theorem dX7_apartOf_19 : decode cX7_apartOf 19 = .ok (.aload_n 0, 1) := by decide +kernel
theorem dX7_apartOf_20 : decode cX7_apartOf 20 = .ok (.iload_n 2, 1) := by decide +kernel
theorem dX7_apartOf_21 : decode cX7_apartOf 21 = .ok (.invokevirtual 45, 3) := by decide +kernel
theorem dX7_apartOf_24 : decode cX7_apartOf 24 = .ok (.isub, 1) := by decide +kernel
theorem dX7_apartOf_25 : decode cX7_apartOf 25 = .ok (.invokestatic 85, 3) := by decide +kernel
theorem dX7_apartOf_28 : decode cX7_apartOf 28 = .ok (.iadd, 1) := by decide +kernel
theorem dX7_apartOf_29 : decode cX7_apartOf 29 = .ok (.istore_n 3, 1) := by decide +kernel
theorem dX7_apartOf_30 : decode cX7_apartOf 30 = .ok (.iconst 0, 1) := by decide +kernel
theorem dX7_apartOf_31 : decode cX7_apartOf 31 = .ok (.istore 4, 2) := by decide +kernel
theorem dX7_apartOf_33 : decode cX7_apartOf 33 = .ok (.iconst 0, 1) := by decide +kernel
theorem dX7_apartOf_34 : decode cX7_apartOf 34 = .ok (.istore 5, 2) := by decide +kernel
theorem dX7_apartOf_36 : decode cX7_apartOf 36 = .ok (.iload 5, 2) := by decide +kernel
theorem dX7_apartOf_38 : decode cX7_apartOf 38 = .ok (.iconst 3, 1) := by decide +kernel
theorem dX7_apartOf_39 : decode cX7_apartOf 39 = .ok (.if_icmp .ge 63, 3) := by decide +kernel
theorem dX7_apartOf_42 : decode cX7_apartOf 42 = .ok (.aload_n 0, 1) := by decide +kernel
theorem dX7_apartOf_43 : decode cX7_apartOf 43 = .ok (.getfield 11, 3) := by decide +kernel
theorem dX7_apartOf_46 : decode cX7_apartOf 46 = .ok (.bipush 36, 2) := by decide +kernel
theorem dX7_apartOf_48 : decode cX7_apartOf 48 = .ok (.iconst 2, 1) := by decide +kernel
theorem dX7_apartOf_49 : decode cX7_apartOf 49 = .ok (.iload 5, 2) := by decide +kernel
theorem dX7_apartOf_51 : decode cX7_apartOf 51 = .ok (.imul, 1) := by decide +kernel
theorem dX7_apartOf_52 : decode cX7_apartOf 52 = .ok (.iadd, 1) := by decide +kernel
theorem dX7_apartOf_53 : decode cX7_apartOf 53 = .ok (.iaload, 1) := by decide +kernel
theorem dX7_apartOf_54 : decode cX7_apartOf 54 = .ok (.istore 6, 2) := by decide +kernel
theorem dX7_apartOf_56 : decode cX7_apartOf 56 = .ok (.iload 6, 2) := by decide +kernel
theorem dX7_apartOf_58 : decode cX7_apartOf 58 = .ok (.ifCond .le 34, 3) := by decide +kernel
theorem dX7_apartOf_61 : decode cX7_apartOf 61 = .ok (.iload_n 3, 1) := by decide +kernel
theorem dX7_apartOf_62 : decode cX7_apartOf 62 = .ok (.iload 6, 2) := by decide +kernel
theorem dX7_apartOf_64 : decode cX7_apartOf 64 = .ok (.iload 6, 2) := by decide +kernel
theorem dX7_apartOf_66 : decode cX7_apartOf 66 = .ok (.imul, 1) := by decide +kernel
theorem dX7_apartOf_67 : decode cX7_apartOf 67 = .ok (.if_icmp .gt 25, 3) := by decide +kernel
theorem dX7_apartOf_70 : decode cX7_apartOf 70 = .ok (.iload 4, 2) := by decide +kernel
theorem dX7_apartOf_72 : decode cX7_apartOf 72 = .ok (.aload_n 0, 1) := by decide +kernel
theorem dX7_apartOf_73 : decode cX7_apartOf 73 = .ok (.getfield 11, 3) := by decide +kernel
theorem dX7_apartOf_76 : decode cX7_apartOf 76 = .ok (.bipush 36, 2) := by decide +kernel
theorem dX7_apartOf_78 : decode cX7_apartOf 78 = .ok (.iconst 2, 1) := by decide +kernel
theorem dX7_apartOf_79 : decode cX7_apartOf 79 = .ok (.iload 5, 2) := by decide +kernel
theorem dX7_apartOf_81 : decode cX7_apartOf 81 = .ok (.imul, 1) := by decide +kernel
theorem dX7_apartOf_82 : decode cX7_apartOf 82 = .ok (.iadd, 1) := by decide +kernel
theorem dX7_apartOf_83 : decode cX7_apartOf 83 = .ok (.iconst 1, 1) := by decide +kernel
theorem dX7_apartOf_84 : decode cX7_apartOf 84 = .ok (.iadd, 1) := by decide +kernel
theorem dX7_apartOf_85 : decode cX7_apartOf 85 = .ok (.iaload, 1) := by decide +kernel
theorem dX7_apartOf_86 : decode cX7_apartOf 86 = .ok (.invokestatic 113, 3) := by decide +kernel
theorem dX7_apartOf_89 : decode cX7_apartOf 89 = .ok (.goto 5, 3) := by decide +kernel
theorem dX7_apartOf_92 : decode cX7_apartOf 92 = .ok (.iload 4, 2) := by decide +kernel
theorem dX7_apartOf_94 : decode cX7_apartOf 94 = .ok (.istore 4, 2) := by decide +kernel
theorem dX7_apartOf_96 : decode cX7_apartOf 96 = .ok (.iinc 5 1, 3) := by decide +kernel
theorem dX7_apartOf_99 : decode cX7_apartOf 99 = .ok (.goto (-63), 3) := by decide +kernel
theorem dX7_apartOf_102 : decode cX7_apartOf 102 = .ok (.iload 4, 2) := by decide +kernel
theorem dX7_apartOf_104 : decode cX7_apartOf 104 = .ok (.ireturn, 1) := by decide +kernel
theorem dX7_isClash_0 : decode cX7_isClash 0 = .ok (.iload_n 1, 1) := by decide +kernel
theorem dX7_isClash_1 : decode cX7_isClash 1 = .ok (.iload_n 2, 1) := by decide +kernel
theorem dX7_isClash_2 : decode cX7_isClash 2 = .ok (.if_icmp .eq 46, 3) := by decide +kernel
theorem dX7_isClash_5 : decode cX7_isClash 5 = .ok (.aload_n 0, 1) := by decide +kernel
theorem dX7_isClash_6 : decode cX7_isClash 6 = .ok (.iload_n 1, 1) := by decide +kernel
theorem dX7_isClash_7 : decode cX7_isClash 7 = .ok (.invokevirtual 75, 3) := by decide +kernel
theorem dX7_isClash_10 : decode cX7_isClash 10 = .ok (.ifCond .lt 38, 3) := by decide +kernel
theorem dX7_isClash_13 : decode cX7_isClash 13 = .ok (.aload_n 0, 1) := by decide +kernel
theorem dX7_isClash_14 : decode cX7_isClash 14 = .ok (.iload_n 2, 1) := by decide +kernel
theorem dX7_isClash_15 : decode cX7_isClash 15 = .ok (.invokevirtual 75, 3) := by decide +kernel
theorem dX7_isClash_18 : decode cX7_isClash 18 = .ok (.ifCond .lt 30, 3) := by decide +kernel
theorem dX7_isClash_21 : decode cX7_isClash 21 = .ok (.aload_n 0, 1) := by decide +kernel
theorem dX7_isClash_22 : decode cX7_isClash 22 = .ok (.iload_n 1, 1) := by decide +kernel
theorem dX7_isClash_23 : decode cX7_isClash 23 = .ok (.invokevirtual 75, 3) := by decide +kernel
theorem dX7_isClash_26 : decode cX7_isClash 26 = .ok (.aload_n 0, 1) := by decide +kernel
theorem dX7_isClash_27 : decode cX7_isClash 27 = .ok (.iload_n 2, 1) := by decide +kernel
theorem dX7_isClash_28 : decode cX7_isClash 28 = .ok (.invokevirtual 75, 3) := by decide +kernel
theorem dX7_isClash_31 : decode cX7_isClash 31 = .ok (.isub, 1) := by decide +kernel
theorem dX7_isClash_32 : decode cX7_isClash 32 = .ok (.invokestatic 118, 3) := by decide +kernel
theorem dX7_isClash_35 : decode cX7_isClash 35 = .ok (.aload_n 0, 1) := by decide +kernel
theorem dX7_isClash_36 : decode cX7_isClash 36 = .ok (.iload_n 1, 1) := by decide +kernel
theorem dX7_isClash_37 : decode cX7_isClash 37 = .ok (.iload_n 2, 1) := by decide +kernel
theorem dX7_isClash_38 : decode cX7_isClash 38 = .ok (.invokevirtual 121, 3) := by decide +kernel
theorem dX7_isClash_41 : decode cX7_isClash 41 = .ok (.if_icmp .ge 7, 3) := by decide +kernel
theorem dX7_isClash_44 : decode cX7_isClash 44 = .ok (.iconst 1, 1) := by decide +kernel
theorem dX7_isClash_45 : decode cX7_isClash 45 = .ok (.goto 4, 3) := by decide +kernel
theorem dX7_isClash_48 : decode cX7_isClash 48 = .ok (.iconst 0, 1) := by decide +kernel
theorem dX7_isClash_49 : decode cX7_isClash 49 = .ok (.ireturn, 1) := by decide +kernel
theorem dX7_clashesOf_0 : decode cX7_clashesOf 0 = .ok (.iconst 0, 1) := by decide +kernel
theorem dX7_clashesOf_1 : decode cX7_clashesOf 1 = .ok (.istore_n 2, 1) := by decide +kernel
theorem dX7_clashesOf_2 : decode cX7_clashesOf 2 = .ok (.iconst 0, 1) := by decide +kernel
theorem dX7_clashesOf_3 : decode cX7_clashesOf 3 = .ok (.istore_n 3, 1) := by decide +kernel
theorem dX7_clashesOf_4 : decode cX7_clashesOf 4 = .ok (.iload_n 3, 1) := by decide +kernel
theorem dX7_clashesOf_5 : decode cX7_clashesOf 5 = .ok (.aload_n 0, 1) := by decide +kernel
theorem dX7_clashesOf_6 : decode cX7_clashesOf 6 = .ok (.getfield 11, 3) := by decide +kernel
theorem dX7_clashesOf_9 : decode cX7_clashesOf 9 = .ok (.iconst 0, 1) := by decide +kernel
theorem dX7_clashesOf_10 : decode cX7_clashesOf 10 = .ok (.iaload, 1) := by decide +kernel
theorem dX7_clashesOf_11 : decode cX7_clashesOf 11 = .ok (.if_icmp .ge 26, 3) := by decide +kernel
theorem dX7_clashesOf_14 : decode cX7_clashesOf 14 = .ok (.iload_n 2, 1) := by decide +kernel
theorem dX7_clashesOf_15 : decode cX7_clashesOf 15 = .ok (.aload_n 0, 1) := by decide +kernel
theorem dX7_clashesOf_16 : decode cX7_clashesOf 16 = .ok (.iload_n 1, 1) := by decide +kernel
theorem dX7_clashesOf_17 : decode cX7_clashesOf 17 = .ok (.iload_n 3, 1) := by decide +kernel
theorem dX7_clashesOf_18 : decode cX7_clashesOf 18 = .ok (.invokevirtual 124, 3) := by decide +kernel
theorem dX7_clashesOf_21 : decode cX7_clashesOf 21 = .ok (.ifCond .eq 7, 3) := by decide +kernel
theorem dX7_clashesOf_24 : decode cX7_clashesOf 24 = .ok (.iconst 1, 1) := by decide +kernel
theorem dX7_clashesOf_25 : decode cX7_clashesOf 25 = .ok (.goto 4, 3) := by decide +kernel
theorem dX7_clashesOf_28 : decode cX7_clashesOf 28 = .ok (.iconst 0, 1) := by decide +kernel
theorem dX7_clashesOf_29 : decode cX7_clashesOf 29 = .ok (.iadd, 1) := by decide +kernel
theorem dX7_clashesOf_30 : decode cX7_clashesOf 30 = .ok (.istore_n 2, 1) := by decide +kernel
theorem dX7_clashesOf_31 : decode cX7_clashesOf 31 = .ok (.iinc 3 1, 3) := by decide +kernel
theorem dX7_clashesOf_34 : decode cX7_clashesOf 34 = .ok (.goto (-30), 3) := by decide +kernel
theorem dX7_clashesOf_37 : decode cX7_clashesOf 37 = .ok (.iload_n 2, 1) := by decide +kernel
theorem dX7_clashesOf_38 : decode cX7_clashesOf 38 = .ok (.ireturn, 1) := by decide +kernel
theorem dX7_clashes_0 : decode cX7_clashes 0 = .ok (.iconst 0, 1) := by decide +kernel
theorem dX7_clashes_1 : decode cX7_clashes 1 = .ok (.istore_n 1, 1) := by decide +kernel
theorem dX7_clashes_2 : decode cX7_clashes 2 = .ok (.iconst 0, 1) := by decide +kernel
theorem dX7_clashes_3 : decode cX7_clashes 3 = .ok (.istore_n 2, 1) := by decide +kernel
theorem dX7_clashes_4 : decode cX7_clashes 4 = .ok (.iload_n 2, 1) := by decide +kernel
theorem dX7_clashes_5 : decode cX7_clashes 5 = .ok (.aload_n 0, 1) := by decide +kernel
theorem dX7_clashes_6 : decode cX7_clashes 6 = .ok (.getfield 11, 3) := by decide +kernel
theorem dX7_clashes_9 : decode cX7_clashes 9 = .ok (.iconst 0, 1) := by decide +kernel
theorem dX7_clashes_10 : decode cX7_clashes 10 = .ok (.iaload, 1) := by decide +kernel
theorem dX7_clashes_11 : decode cX7_clashes 11 = .ok (.if_icmp .ge 17, 3) := by decide +kernel
theorem dX7_clashes_14 : decode cX7_clashes 14 = .ok (.iload_n 1, 1) := by decide +kernel
theorem dX7_clashes_15 : decode cX7_clashes 15 = .ok (.aload_n 0, 1) := by decide +kernel
theorem dX7_clashes_16 : decode cX7_clashes 16 = .ok (.iload_n 2, 1) := by decide +kernel
theorem dX7_clashes_17 : decode cX7_clashes 17 = .ok (.invokevirtual 127, 3) := by decide +kernel
theorem dX7_clashes_20 : decode cX7_clashes 20 = .ok (.iadd, 1) := by decide +kernel
theorem dX7_clashes_21 : decode cX7_clashes 21 = .ok (.istore_n 1, 1) := by decide +kernel
theorem dX7_clashes_22 : decode cX7_clashes 22 = .ok (.iinc 2 1, 3) := by decide +kernel
theorem dX7_clashes_25 : decode cX7_clashes 25 = .ok (.goto (-21), 3) := by decide +kernel
theorem dX7_clashes_28 : decode cX7_clashes 28 = .ok (.iload_n 1, 1) := by decide +kernel
theorem dX7_clashes_29 : decode cX7_clashes 29 = .ok (.iconst 2, 1) := by decide +kernel
theorem dX7_clashes_30 : decode cX7_clashes 30 = .ok (.idiv, 1) := by decide +kernel
theorem dX7_clashes_31 : decode cX7_clashes 31 = .ok (.ireturn, 1) := by decide +kernel
theorem dX7_isAllowed_0 : decode cX7_isAllowed 0 = .ok (.iconst 0, 1) := by decide +kernel
theorem dX7_isAllowed_1 : decode cX7_isAllowed 1 = .ok (.istore_n 3, 1) := by decide +kernel
theorem dX7_isAllowed_2 : decode cX7_isAllowed 2 = .ok (.iload_n 3, 1) := by decide +kernel
theorem dX7_isAllowed_3 : decode cX7_isAllowed 3 = .ok (.aload_n 0, 1) := by decide +kernel
theorem dX7_isAllowed_4 : decode cX7_isAllowed 4 = .ok (.getfield 11, 3) := by decide +kernel
theorem dX7_isAllowed_7 : decode cX7_isAllowed 7 = .ok (.iconst 0, 1) := by decide +kernel
theorem dX7_isAllowed_8 : decode cX7_isAllowed 8 = .ok (.iaload, 1) := by decide +kernel
theorem dX7_isAllowed_9 : decode cX7_isAllowed 9 = .ok (.if_icmp .ge 43, 3) := by decide +kernel
theorem dX7_isAllowed_12 : decode cX7_isAllowed 12 = .ok (.iload_n 3, 1) := by decide +kernel
theorem dX7_isAllowed_13 : decode cX7_isAllowed 13 = .ok (.iload_n 1, 1) := by decide +kernel
theorem dX7_isAllowed_14 : decode cX7_isAllowed 14 = .ok (.if_icmp .eq 32, 3) := by decide +kernel
theorem dX7_isAllowed_17 : decode cX7_isAllowed 17 = .ok (.aload_n 0, 1) := by decide +kernel
theorem dX7_isAllowed_18 : decode cX7_isAllowed 18 = .ok (.iload_n 3, 1) := by decide +kernel
theorem dX7_isAllowed_19 : decode cX7_isAllowed 19 = .ok (.invokevirtual 75, 3) := by decide +kernel
theorem dX7_isAllowed_22 : decode cX7_isAllowed 22 = .ok (.ifCond .lt 24, 3) := by decide +kernel
theorem dX7_isAllowed_25 : decode cX7_isAllowed 25 = .ok (.aload_n 0, 1) := by decide +kernel
theorem dX7_isAllowed_26 : decode cX7_isAllowed 26 = .ok (.iload_n 3, 1) := by decide +kernel
theorem dX7_isAllowed_27 : decode cX7_isAllowed 27 = .ok (.invokevirtual 75, 3) := by decide +kernel
theorem dX7_isAllowed_30 : decode cX7_isAllowed 30 = .ok (.iload_n 2, 1) := by decide +kernel
theorem dX7_isAllowed_31 : decode cX7_isAllowed 31 = .ok (.isub, 1) := by decide +kernel
theorem dX7_isAllowed_32 : decode cX7_isAllowed 32 = .ok (.invokestatic 118, 3) := by decide +kernel
theorem dX7_isAllowed_35 : decode cX7_isAllowed 35 = .ok (.aload_n 0, 1) := by decide +kernel
theorem dX7_isAllowed_36 : decode cX7_isAllowed 36 = .ok (.iload_n 1, 1) := by decide +kernel
theorem dX7_isAllowed_37 : decode cX7_isAllowed 37 = .ok (.iload_n 3, 1) := by decide +kernel
theorem dX7_isAllowed_38 : decode cX7_isAllowed 38 = .ok (.invokevirtual 121, 3) := by decide +kernel
theorem dX7_isAllowed_41 : decode cX7_isAllowed 41 = .ok (.if_icmp .ge 5, 3) := by decide +kernel
theorem dX7_isAllowed_44 : decode cX7_isAllowed 44 = .ok (.iconst 0, 1) := by decide +kernel
theorem dX7_isAllowed_45 : decode cX7_isAllowed 45 = .ok (.ireturn, 1) := by decide +kernel
theorem dX7_isAllowed_46 : decode cX7_isAllowed 46 = .ok (.iinc 3 1, 3) := by decide +kernel
theorem dX7_isAllowed_49 : decode cX7_isAllowed 49 = .ok (.goto (-47), 3) := by decide +kernel
theorem dX7_isAllowed_52 : decode cX7_isAllowed 52 = .ok (.iconst 1, 1) := by decide +kernel
theorem dX7_isAllowed_53 : decode cX7_isAllowed 53 = .ok (.ireturn, 1) := by decide +kernel
theorem dX7_allowed_0 : decode cX7_allowed 0 = .ok (.iconst 0, 1) := by decide +kernel
theorem dX7_allowed_1 : decode cX7_allowed 1 = .ok (.istore_n 3, 1) := by decide +kernel
theorem dX7_allowed_2 : decode cX7_allowed 2 = .ok (.iconst 0, 1) := by decide +kernel
theorem dX7_allowed_3 : decode cX7_allowed 3 = .ok (.istore 4, 2) := by decide +kernel
theorem dX7_allowed_5 : decode cX7_allowed 5 = .ok (.iload 4, 2) := by decide +kernel
theorem dX7_allowed_7 : decode cX7_allowed 7 = .ok (.iload_n 2, 1) := by decide +kernel
theorem dX7_allowed_8 : decode cX7_allowed 8 = .ok (.if_icmp .ge 27, 3) := by decide +kernel
theorem dX7_allowed_11 : decode cX7_allowed 11 = .ok (.iload_n 3, 1) := by decide +kernel
theorem dX7_allowed_12 : decode cX7_allowed 12 = .ok (.aload_n 0, 1) := by decide +kernel
theorem dX7_allowed_13 : decode cX7_allowed 13 = .ok (.iload_n 1, 1) := by decide +kernel
theorem dX7_allowed_14 : decode cX7_allowed 14 = .ok (.iload 4, 2) := by decide +kernel
theorem dX7_allowed_16 : decode cX7_allowed 16 = .ok (.invokevirtual 130, 3) := by decide +kernel
theorem dX7_allowed_19 : decode cX7_allowed 19 = .ok (.ifCond .eq 7, 3) := by decide +kernel
theorem dX7_allowed_22 : decode cX7_allowed 22 = .ok (.iconst 1, 1) := by decide +kernel
theorem dX7_allowed_23 : decode cX7_allowed 23 = .ok (.goto 4, 3) := by decide +kernel
theorem dX7_allowed_26 : decode cX7_allowed 26 = .ok (.iconst 0, 1) := by decide +kernel
theorem dX7_allowed_27 : decode cX7_allowed 27 = .ok (.iadd, 1) := by decide +kernel
theorem dX7_allowed_28 : decode cX7_allowed 28 = .ok (.istore_n 3, 1) := by decide +kernel
theorem dX7_allowed_29 : decode cX7_allowed 29 = .ok (.iinc 4 1, 3) := by decide +kernel
theorem dX7_allowed_32 : decode cX7_allowed 32 = .ok (.goto (-27), 3) := by decide +kernel
theorem dX7_allowed_35 : decode cX7_allowed 35 = .ok (.iload_n 3, 1) := by decide +kernel
theorem dX7_allowed_36 : decode cX7_allowed 36 = .ok (.ireturn, 1) := by decide +kernel
theorem dX7_leastAllowed_0 : decode cX7_leastAllowed 0 = .ok (.iconst 0, 1) := by decide +kernel
theorem dX7_leastAllowed_1 : decode cX7_leastAllowed 1 = .ok (.istore_n 2, 1) := by decide +kernel
theorem dX7_leastAllowed_2 : decode cX7_leastAllowed 2 = .ok (.iload_n 2, 1) := by decide +kernel
theorem dX7_leastAllowed_3 : decode cX7_leastAllowed 3 = .ok (.bipush 20, 2) := by decide +kernel
theorem dX7_leastAllowed_5 : decode cX7_leastAllowed 5 = .ok (.if_icmp .ge 20, 3) := by decide +kernel
theorem dX7_leastAllowed_8 : decode cX7_leastAllowed 8 = .ok (.aload_n 0, 1) := by decide +kernel
theorem dX7_leastAllowed_9 : decode cX7_leastAllowed 9 = .ok (.iload_n 1, 1) := by decide +kernel
theorem dX7_leastAllowed_10 : decode cX7_leastAllowed 10 = .ok (.iload_n 2, 1) := by decide +kernel
theorem dX7_leastAllowed_11 : decode cX7_leastAllowed 11 = .ok (.invokevirtual 130, 3) := by decide +kernel
theorem dX7_leastAllowed_14 : decode cX7_leastAllowed 14 = .ok (.ifCond .eq 5, 3) := by decide +kernel
theorem dX7_leastAllowed_17 : decode cX7_leastAllowed 17 = .ok (.iload_n 2, 1) := by decide +kernel
theorem dX7_leastAllowed_18 : decode cX7_leastAllowed 18 = .ok (.ireturn, 1) := by decide +kernel
theorem dX7_leastAllowed_19 : decode cX7_leastAllowed 19 = .ok (.iinc 2 1, 3) := by decide +kernel
theorem dX7_leastAllowed_22 : decode cX7_leastAllowed 22 = .ok (.goto (-20), 3) := by decide +kernel
theorem dX7_leastAllowed_25 : decode cX7_leastAllowed 25 = .ok (.bipush (-5), 2) := by decide +kernel
theorem dX7_leastAllowed_27 : decode cX7_leastAllowed 27 = .ok (.ireturn, 1) := by decide +kernel
theorem dX7_apartMany_0 : decode cX7_apartMany 0 = .ok (.iconst 0, 1) := by decide +kernel
theorem dX7_apartMany_1 : decode cX7_apartMany 1 = .ok (.istore_n 2, 1) := by decide +kernel
theorem dX7_apartMany_2 : decode cX7_apartMany 2 = .ok (.iconst 0, 1) := by decide +kernel
theorem dX7_apartMany_3 : decode cX7_apartMany 3 = .ok (.istore_n 3, 1) := by decide +kernel
theorem dX7_apartMany_4 : decode cX7_apartMany 4 = .ok (.iload_n 3, 1) := by decide +kernel
theorem dX7_apartMany_5 : decode cX7_apartMany 5 = .ok (.aload_n 0, 1) := by decide +kernel
theorem dX7_apartMany_6 : decode cX7_apartMany 6 = .ok (.getfield 11, 3) := by decide +kernel
theorem dX7_apartMany_9 : decode cX7_apartMany 9 = .ok (.iconst 0, 1) := by decide +kernel
theorem dX7_apartMany_10 : decode cX7_apartMany 10 = .ok (.iaload, 1) := by decide +kernel
theorem dX7_apartMany_11 : decode cX7_apartMany 11 = .ok (.if_icmp .ge 31, 3) := by decide +kernel
theorem dX7_apartMany_14 : decode cX7_apartMany 14 = .ok (.iload_n 2, 1) := by decide +kernel
theorem dX7_apartMany_15 : decode cX7_apartMany 15 = .ok (.iload_n 3, 1) := by decide +kernel
theorem dX7_apartMany_16 : decode cX7_apartMany 16 = .ok (.iload_n 1, 1) := by decide +kernel
theorem dX7_apartMany_17 : decode cX7_apartMany 17 = .ok (.if_icmp .eq 16, 3) := by decide +kernel
theorem dX7_apartMany_20 : decode cX7_apartMany 20 = .ok (.aload_n 0, 1) := by decide +kernel
theorem dX7_apartMany_21 : decode cX7_apartMany 21 = .ok (.iload_n 1, 1) := by decide +kernel
theorem dX7_apartMany_22 : decode cX7_apartMany 22 = .ok (.iload_n 3, 1) := by decide +kernel
theorem dX7_apartMany_23 : decode cX7_apartMany 23 = .ok (.invokevirtual 121, 3) := by decide +kernel
theorem dX7_apartMany_26 : decode cX7_apartMany 26 = .ok (.ifCond .le 7, 3) := by decide +kernel
theorem dX7_apartMany_29 : decode cX7_apartMany 29 = .ok (.iconst 1, 1) := by decide +kernel
theorem dX7_apartMany_30 : decode cX7_apartMany 30 = .ok (.goto 4, 3) := by decide +kernel
theorem dX7_apartMany_33 : decode cX7_apartMany 33 = .ok (.iconst 0, 1) := by decide +kernel
theorem dX7_apartMany_34 : decode cX7_apartMany 34 = .ok (.iadd, 1) := by decide +kernel
theorem dX7_apartMany_35 : decode cX7_apartMany 35 = .ok (.istore_n 2, 1) := by decide +kernel
theorem dX7_apartMany_36 : decode cX7_apartMany 36 = .ok (.iinc 3 1, 3) := by decide +kernel
theorem dX7_apartMany_39 : decode cX7_apartMany 39 = .ok (.goto (-35), 3) := by decide +kernel
theorem dX7_apartMany_42 : decode cX7_apartMany 42 = .ok (.iload_n 2, 1) := by decide +kernel
theorem dX7_apartMany_43 : decode cX7_apartMany 43 = .ok (.ireturn, 1) := by decide +kernel
theorem dX7_of_0 : decode cX7_of 0 = .ok (.aload_n 0, 1) := by decide +kernel
theorem dX7_of_1 : decode cX7_of 1 = .ok (.iload_n 1, 1) := by decide +kernel
theorem dX7_of_2 : decode cX7_of 2 = .ok (.invokevirtual 64, 3) := by decide +kernel
theorem dX7_of_5 : decode cX7_of 5 = .ok (.ifCond .eq 15, 3) := by decide +kernel
theorem dX7_of_8 : decode cX7_of 8 = .ok (.iload_n 2, 1) := by decide +kernel
theorem dX7_of_9 : decode cX7_of 9 = .ok (.i2l, 1) := by decide +kernel
theorem dX7_of_10 : decode cX7_of 10 = .ok (.lconst 0, 1) := by decide +kernel
theorem dX7_of_11 : decode cX7_of 11 = .ok (.ldc2_w 133, 3) := by decide +kernel
theorem dX7_of_14 : decode cX7_of 14 = .ok (.invokestatic 37, 3) := by decide +kernel
theorem dX7_of_17 : decode cX7_of 17 = .ok (.ifCond .ne 5, 3) := by decide +kernel
theorem dX7_of_20 : decode cX7_of 20 = .ok (.iconst (-1), 1) := by decide +kernel
theorem dX7_of_21 : decode cX7_of 21 = .ok (.ireturn, 1) := by decide +kernel
theorem dX7_of_22 : decode cX7_of 22 = .ok (.iload_n 2, 1) := by decide +kernel
theorem dX7_of_23 : decode cX7_of 23 = .ok (.tableswitch 72 2 7 #[37, 72, 46, 54, 60, 66], 37) := by decide +kernel
theorem dX7_of_60 : decode cX7_of 60 = .ok (.aload_n 0, 1) := by decide +kernel
theorem dX7_of_61 : decode cX7_of 61 = .ok (.iload_n 1, 1) := by decide +kernel
theorem dX7_of_62 : decode cX7_of 62 = .ok (.invokevirtual 75, 3) := by decide +kernel
theorem dX7_of_65 : decode cX7_of 65 = .ok (.invokestatic 82, 3) := by decide +kernel
theorem dX7_of_68 : decode cX7_of 68 = .ok (.ireturn, 1) := by decide +kernel
theorem dX7_of_69 : decode cX7_of 69 = .ok (.aload_n 0, 1) := by decide +kernel
theorem dX7_of_70 : decode cX7_of 70 = .ok (.iload_n 1, 1) := by decide +kernel
theorem dX7_of_71 : decode cX7_of 71 = .ok (.bipush 20, 2) := by decide +kernel
theorem dX7_of_73 : decode cX7_of 73 = .ok (.invokevirtual 135, 3) := by decide +kernel
theorem dX7_of_76 : decode cX7_of 76 = .ok (.ireturn, 1) := by decide +kernel
theorem dX7_of_77 : decode cX7_of 77 = .ok (.aload_n 0, 1) := by decide +kernel
theorem dX7_of_78 : decode cX7_of 78 = .ok (.iload_n 1, 1) := by decide +kernel
theorem dX7_of_79 : decode cX7_of 79 = .ok (.invokevirtual 138, 3) := by decide +kernel
theorem dX7_of_82 : decode cX7_of 82 = .ok (.ireturn, 1) := by decide +kernel
theorem dX7_of_83 : decode cX7_of 83 = .ok (.aload_n 0, 1) := by decide +kernel
theorem dX7_of_84 : decode cX7_of 84 = .ok (.iload_n 1, 1) := by decide +kernel
theorem dX7_of_85 : decode cX7_of 85 = .ok (.invokevirtual 141, 3) := by decide +kernel
theorem dX7_of_88 : decode cX7_of 88 = .ok (.ireturn, 1) := by decide +kernel
theorem dX7_of_89 : decode cX7_of 89 = .ok (.aload_n 0, 1) := by decide +kernel
theorem dX7_of_90 : decode cX7_of 90 = .ok (.iload_n 1, 1) := by decide +kernel
theorem dX7_of_91 : decode cX7_of 91 = .ok (.invokevirtual 127, 3) := by decide +kernel
theorem dX7_of_94 : decode cX7_of 94 = .ok (.ireturn, 1) := by decide +kernel
theorem dX7_of_95 : decode cX7_of 95 = .ok (.aload_n 0, 1) := by decide +kernel
theorem dX7_of_96 : decode cX7_of 96 = .ok (.getfield 11, 3) := by decide +kernel
theorem dX7_of_99 : decode cX7_of 99 = .ok (.iconst 4, 1) := by decide +kernel
theorem dX7_of_100 : decode cX7_of 100 = .ok (.iconst 4, 1) := by decide +kernel
theorem dX7_of_101 : decode cX7_of 101 = .ok (.iload_n 1, 1) := by decide +kernel
theorem dX7_of_102 : decode cX7_of 102 = .ok (.imul, 1) := by decide +kernel
theorem dX7_of_103 : decode cX7_of 103 = .ok (.iadd, 1) := by decide +kernel
theorem dX7_of_104 : decode cX7_of 104 = .ok (.iload_n 2, 1) := by decide +kernel
theorem dX7_of_105 : decode cX7_of 105 = .ok (.iadd, 1) := by decide +kernel
theorem dX7_of_106 : decode cX7_of 106 = .ok (.iaload, 1) := by decide +kernel
theorem dX7_of_107 : decode cX7_of 107 = .ok (.ireturn, 1) := by decide +kernel
theorem dX7_apart_0 : decode cX7_apart 0 = .ok (.aload_n 0, 1) := by decide +kernel
theorem dX7_apart_1 : decode cX7_apart 1 = .ok (.iload_n 1, 1) := by decide +kernel
theorem dX7_apart_2 : decode cX7_apart 2 = .ok (.invokevirtual 64, 3) := by decide +kernel
theorem dX7_apart_5 : decode cX7_apart 5 = .ok (.ifCond .eq 25, 3) := by decide +kernel
theorem dX7_apart_8 : decode cX7_apart 8 = .ok (.aload_n 0, 1) := by decide +kernel
theorem dX7_apart_9 : decode cX7_apart 9 = .ok (.iload_n 2, 1) := by decide +kernel
theorem dX7_apart_10 : decode cX7_apart 10 = .ok (.invokevirtual 64, 3) := by decide +kernel
theorem dX7_apart_13 : decode cX7_apart 13 = .ok (.ifCond .eq 17, 3) := by decide +kernel
theorem dX7_apart_16 : decode cX7_apart 16 = .ok (.iload_n 1, 1) := by decide +kernel
theorem dX7_apart_17 : decode cX7_apart 17 = .ok (.iload_n 2, 1) := by decide +kernel
theorem dX7_apart_18 : decode cX7_apart 18 = .ok (.if_icmp .eq 12, 3) := by decide +kernel
theorem dX7_apart_21 : decode cX7_apart 21 = .ok (.aload_n 0, 1) := by decide +kernel
theorem dX7_apart_22 : decode cX7_apart 22 = .ok (.iload_n 1, 1) := by decide +kernel
theorem dX7_apart_23 : decode cX7_apart 23 = .ok (.iload_n 2, 1) := by decide +kernel
theorem dX7_apart_24 : decode cX7_apart 24 = .ok (.invokevirtual 121, 3) := by decide +kernel
theorem dX7_apart_27 : decode cX7_apart 27 = .ok (.goto 4, 3) := by decide +kernel
theorem dX7_apart_30 : decode cX7_apart 30 = .ok (.iconst (-1), 1) := by decide +kernel
theorem dX7_apart_31 : decode cX7_apart 31 = .ok (.ireturn, 1) := by decide +kernel
theorem dX7_at_0 : decode cX7_at 0 = .ok (.iload_n 1, 1) := by decide +kernel
theorem dX7_at_1 : decode cX7_at 1 = .ok (.iload_n 2, 1) := by decide +kernel
theorem dX7_at_2 : decode cX7_at 2 = .ok (.invokestatic 50, 3) := by decide +kernel
theorem dX7_at_5 : decode cX7_at 5 = .ok (.ifCond .ne 6, 3) := by decide +kernel
theorem dX7_at_8 : decode cX7_at 8 = .ok (.bipush (-2), 2) := by decide +kernel
theorem dX7_at_10 : decode cX7_at 10 = .ok (.ireturn, 1) := by decide +kernel
theorem dX7_at_11 : decode cX7_at 11 = .ok (.aload_n 0, 1) := by decide +kernel
theorem dX7_at_12 : decode cX7_at 12 = .ok (.iload_n 1, 1) := by decide +kernel
theorem dX7_at_13 : decode cX7_at 13 = .ok (.iload_n 2, 1) := by decide +kernel
theorem dX7_at_14 : decode cX7_at 14 = .ok (.invokevirtual 54, 3) := by decide +kernel
theorem dX7_at_17 : decode cX7_at 17 = .ok (.istore_n 3, 1) := by decide +kernel
theorem dX7_at_18 : decode cX7_at 18 = .ok (.iload_n 3, 1) := by decide +kernel
theorem dX7_at_19 : decode cX7_at 19 = .ok (.ifCond .ge 8, 3) := by decide +kernel
theorem dX7_at_22 : decode cX7_at 22 = .ok (.bipush (-5), 2) := by decide +kernel
theorem dX7_at_24 : decode cX7_at 24 = .ok (.goto 4, 3) := by decide +kernel
theorem dX7_at_27 : decode cX7_at 27 = .ok (.iload_n 3, 1) := by decide +kernel
theorem dX7_at_28 : decode cX7_at 28 = .ok (.ireturn, 1) := by decide +kernel
theorem dX7_nextOne_0 : decode cX7_nextOne 0 = .ok (.iconst (-1), 1) := by decide +kernel
theorem dX7_nextOne_1 : decode cX7_nextOne 1 = .ok (.istore_n 2, 1) := by decide +kernel
theorem dX7_nextOne_2 : decode cX7_nextOne 2 = .ok (.iconst 0, 1) := by decide +kernel
theorem dX7_nextOne_3 : decode cX7_nextOne 3 = .ok (.istore_n 3, 1) := by decide +kernel
theorem dX7_nextOne_4 : decode cX7_nextOne 4 = .ok (.iload_n 3, 1) := by decide +kernel
theorem dX7_nextOne_5 : decode cX7_nextOne 5 = .ok (.aload_n 0, 1) := by decide +kernel
theorem dX7_nextOne_6 : decode cX7_nextOne 6 = .ok (.getfield 11, 3) := by decide +kernel
theorem dX7_nextOne_9 : decode cX7_nextOne 9 = .ok (.iconst 0, 1) := by decide +kernel
theorem dX7_nextOne_10 : decode cX7_nextOne 10 = .ok (.iaload, 1) := by decide +kernel
theorem dX7_nextOne_11 : decode cX7_nextOne 11 = .ok (.if_icmp .ge 40, 3) := by decide +kernel
theorem dX7_nextOne_14 : decode cX7_nextOne 14 = .ok (.aload_n 0, 1) := by decide +kernel
theorem dX7_nextOne_15 : decode cX7_nextOne 15 = .ok (.iload_n 3, 1) := by decide +kernel
theorem dX7_nextOne_16 : decode cX7_nextOne 16 = .ok (.invokevirtual 75, 3) := by decide +kernel
theorem dX7_nextOne_19 : decode cX7_nextOne 19 = .ok (.ifCond .ge 26, 3) := by decide +kernel
theorem dX7_nextOne_22 : decode cX7_nextOne 22 = .ok (.iload_n 1, 1) := by decide +kernel
theorem dX7_nextOne_23 : decode cX7_nextOne 23 = .ok (.iload_n 3, 1) := by decide +kernel
theorem dX7_nextOne_24 : decode cX7_nextOne 24 = .ok (.ishr, 1) := by decide +kernel
theorem dX7_nextOne_25 : decode cX7_nextOne 25 = .ok (.iconst 1, 1) := by decide +kernel
theorem dX7_nextOne_26 : decode cX7_nextOne 26 = .ok (.iand, 1) := by decide +kernel
theorem dX7_nextOne_27 : decode cX7_nextOne 27 = .ok (.ifCond .ne 18, 3) := by decide +kernel
theorem dX7_nextOne_30 : decode cX7_nextOne 30 = .ok (.iload_n 2, 1) := by decide +kernel
theorem dX7_nextOne_31 : decode cX7_nextOne 31 = .ok (.ifCond .lt 12, 3) := by decide +kernel
theorem dX7_nextOne_34 : decode cX7_nextOne 34 = .ok (.aload_n 0, 1) := by decide +kernel
theorem dX7_nextOne_35 : decode cX7_nextOne 35 = .ok (.iload_n 3, 1) := by decide +kernel
theorem dX7_nextOne_36 : decode cX7_nextOne 36 = .ok (.iload_n 2, 1) := by decide +kernel
theorem dX7_nextOne_37 : decode cX7_nextOne 37 = .ok (.invokevirtual 144, 3) := by decide +kernel
theorem dX7_nextOne_40 : decode cX7_nextOne 40 = .ok (.ifCond .eq 5, 3) := by decide +kernel
theorem dX7_nextOne_43 : decode cX7_nextOne 43 = .ok (.iload_n 3, 1) := by decide +kernel
theorem dX7_nextOne_44 : decode cX7_nextOne 44 = .ok (.istore_n 2, 1) := by decide +kernel
theorem dX7_nextOne_45 : decode cX7_nextOne 45 = .ok (.iinc 3 1, 3) := by decide +kernel
theorem dX7_nextOne_48 : decode cX7_nextOne 48 = .ok (.goto (-44), 3) := by decide +kernel
theorem dX7_nextOne_51 : decode cX7_nextOne 51 = .ok (.iload_n 2, 1) := by decide +kernel
theorem dX7_nextOne_52 : decode cX7_nextOne 52 = .ok (.ireturn, 1) := by decide +kernel
theorem dX7_isAhead_0 : decode cX7_isAhead 0 = .ok (.aload_n 0, 1) := by decide +kernel
theorem dX7_isAhead_1 : decode cX7_isAhead 1 = .ok (.iload_n 1, 1) := by decide +kernel
theorem dX7_isAhead_2 : decode cX7_isAhead 2 = .ok (.bipush 20, 2) := by decide +kernel
theorem dX7_isAhead_4 : decode cX7_isAhead 4 = .ok (.invokevirtual 135, 3) := by decide +kernel
theorem dX7_isAhead_7 : decode cX7_isAhead 7 = .ok (.istore_n 3, 1) := by decide +kernel
theorem dX7_isAhead_8 : decode cX7_isAhead 8 = .ok (.aload_n 0, 1) := by decide +kernel
theorem dX7_isAhead_9 : decode cX7_isAhead 9 = .ok (.iload_n 2, 1) := by decide +kernel
theorem dX7_isAhead_10 : decode cX7_isAhead 10 = .ok (.bipush 20, 2) := by decide +kernel
theorem dX7_isAhead_12 : decode cX7_isAhead 12 = .ok (.invokevirtual 135, 3) := by decide +kernel
theorem dX7_isAhead_15 : decode cX7_isAhead 15 = .ok (.istore 4, 2) := by decide +kernel
theorem dX7_isAhead_17 : decode cX7_isAhead 17 = .ok (.iload_n 3, 1) := by decide +kernel
theorem dX7_isAhead_18 : decode cX7_isAhead 18 = .ok (.iload 4, 2) := by decide +kernel
theorem dX7_isAhead_20 : decode cX7_isAhead 20 = .ok (.if_icmp .eq 17, 3) := by decide +kernel
theorem dX7_isAhead_23 : decode cX7_isAhead 23 = .ok (.iload_n 3, 1) := by decide +kernel
theorem dX7_isAhead_24 : decode cX7_isAhead 24 = .ok (.iload 4, 2) := by decide +kernel
theorem dX7_isAhead_26 : decode cX7_isAhead 26 = .ok (.if_icmp .ge 7, 3) := by decide +kernel
theorem dX7_isAhead_29 : decode cX7_isAhead 29 = .ok (.iconst 1, 1) := by decide +kernel
theorem dX7_isAhead_30 : decode cX7_isAhead 30 = .ok (.goto 25, 3) := by decide +kernel
theorem dX7_isAhead_33 : decode cX7_isAhead 33 = .ok (.iconst 0, 1) := by decide +kernel
theorem dX7_isAhead_34 : decode cX7_isAhead 34 = .ok (.goto 21, 3) := by decide +kernel
theorem dX7_isAhead_37 : decode cX7_isAhead 37 = .ok (.aload_n 0, 1) := by decide +kernel
theorem dX7_isAhead_38 : decode cX7_isAhead 38 = .ok (.iload_n 1, 1) := by decide +kernel
theorem dX7_isAhead_39 : decode cX7_isAhead 39 = .ok (.invokevirtual 141, 3) := by decide +kernel
theorem dX7_isAhead_42 : decode cX7_isAhead 42 = .ok (.aload_n 0, 1) := by decide +kernel
theorem dX7_isAhead_43 : decode cX7_isAhead 43 = .ok (.iload_n 2, 1) := by decide +kernel
theorem dX7_isAhead_44 : decode cX7_isAhead 44 = .ok (.invokevirtual 141, 3) := by decide +kernel
theorem dX7_isAhead_47 : decode cX7_isAhead 47 = .ok (.if_icmp .le 7, 3) := by decide +kernel
theorem dX7_isAhead_50 : decode cX7_isAhead 50 = .ok (.iconst 1, 1) := by decide +kernel
theorem dX7_isAhead_51 : decode cX7_isAhead 51 = .ok (.goto 4, 3) := by decide +kernel
theorem dX7_isAhead_54 : decode cX7_isAhead 54 = .ok (.iconst 0, 1) := by decide +kernel
theorem dX7_isAhead_55 : decode cX7_isAhead 55 = .ok (.ireturn, 1) := by decide +kernel
theorem dX7_assigned_0 : decode cX7_assigned 0 = .ok (.iconst 0, 1) := by decide +kernel
theorem dX7_assigned_1 : decode cX7_assigned 1 = .ok (.istore_n 1, 1) := by decide +kernel
theorem dX7_assigned_2 : decode cX7_assigned 2 = .ok (.iload_n 1, 1) := by decide +kernel
theorem dX7_assigned_3 : decode cX7_assigned 3 = .ok (.aload_n 0, 1) := by decide +kernel
theorem dX7_assigned_4 : decode cX7_assigned 4 = .ok (.getfield 11, 3) := by decide +kernel
theorem dX7_assigned_7 : decode cX7_assigned 7 = .ok (.iconst 0, 1) := by decide +kernel
theorem dX7_assigned_8 : decode cX7_assigned 8 = .ok (.iaload, 1) := by decide +kernel
theorem dX7_assigned_9 : decode cX7_assigned 9 = .ok (.if_icmp .ge 23, 3) := by decide +kernel
theorem dX7_assigned_12 : decode cX7_assigned 12 = .ok (.aload_n 0, 1) := by decide +kernel
theorem dX7_assigned_13 : decode cX7_assigned 13 = .ok (.iload_n 1, 1) := by decide +kernel
theorem dX7_assigned_14 : decode cX7_assigned 14 = .ok (.invokevirtual 72, 3) := by decide +kernel
theorem dX7_assigned_17 : decode cX7_assigned 17 = .ok (.ifCond .ne 9, 3) := by decide +kernel
theorem dX7_assigned_20 : decode cX7_assigned 20 = .ok (.aload_n 0, 1) := by decide +kernel
theorem dX7_assigned_21 : decode cX7_assigned 21 = .ok (.iload_n 1, 1) := by decide +kernel
theorem dX7_assigned_22 : decode cX7_assigned 22 = .ok (.iconst (-1), 1) := by decide +kernel
theorem dX7_assigned_23 : decode cX7_assigned 23 = .ok (.invokevirtual 78, 3) := by decide +kernel
theorem dX7_assigned_26 : decode cX7_assigned 26 = .ok (.iinc 1 1, 3) := by decide +kernel
theorem dX7_assigned_29 : decode cX7_assigned 29 = .ok (.goto (-27), 3) := by decide +kernel
theorem dX7_assigned_32 : decode cX7_assigned 32 = .ok (.iconst 0, 1) := by decide +kernel
theorem dX7_assigned_33 : decode cX7_assigned 33 = .ok (.istore_n 1, 1) := by decide +kernel
theorem dX7_assigned_34 : decode cX7_assigned 34 = .ok (.aload_n 0, 1) := by decide +kernel
theorem dX7_assigned_35 : decode cX7_assigned 35 = .ok (.iload_n 1, 1) := by decide +kernel
theorem dX7_assigned_36 : decode cX7_assigned 36 = .ok (.invokevirtual 147, 3) := by decide +kernel
theorem dX7_assigned_39 : decode cX7_assigned 39 = .ok (.istore_n 2, 1) := by decide +kernel
theorem dX7_assigned_40 : decode cX7_assigned 40 = .ok (.iload_n 2, 1) := by decide +kernel
theorem dX7_assigned_41 : decode cX7_assigned 41 = .ok (.ifCond .lt 37, 3) := by decide +kernel
theorem dX7_assigned_44 : decode cX7_assigned 44 = .ok (.aload_n 0, 1) := by decide +kernel
theorem dX7_assigned_45 : decode cX7_assigned 45 = .ok (.iload_n 2, 1) := by decide +kernel
theorem dX7_assigned_46 : decode cX7_assigned 46 = .ok (.invokevirtual 138, 3) := by decide +kernel
theorem dX7_assigned_49 : decode cX7_assigned 49 = .ok (.istore_n 3, 1) := by decide +kernel
theorem dX7_assigned_50 : decode cX7_assigned 50 = .ok (.iload_n 3, 1) := by decide +kernel
theorem dX7_assigned_51 : decode cX7_assigned 51 = .ok (.ifCond .ge 12, 3) := by decide +kernel
theorem dX7_assigned_54 : decode cX7_assigned 54 = .ok (.iload_n 1, 1) := by decide +kernel
theorem dX7_assigned_55 : decode cX7_assigned 55 = .ok (.iconst 1, 1) := by decide +kernel
theorem dX7_assigned_56 : decode cX7_assigned 56 = .ok (.iload_n 2, 1) := by decide +kernel
theorem dX7_assigned_57 : decode cX7_assigned 57 = .ok (.ishl, 1) := by decide +kernel
theorem dX7_assigned_58 : decode cX7_assigned 58 = .ok (.ior, 1) := by decide +kernel
theorem dX7_assigned_59 : decode cX7_assigned 59 = .ok (.istore_n 1, 1) := by decide +kernel
theorem dX7_assigned_60 : decode cX7_assigned 60 = .ok (.goto 9, 3) := by decide +kernel
theorem dX7_assigned_63 : decode cX7_assigned 63 = .ok (.aload_n 0, 1) := by decide +kernel
theorem dX7_assigned_64 : decode cX7_assigned 64 = .ok (.iload_n 2, 1) := by decide +kernel
theorem dX7_assigned_65 : decode cX7_assigned 65 = .ok (.iload_n 3, 1) := by decide +kernel
theorem dX7_assigned_66 : decode cX7_assigned 66 = .ok (.invokevirtual 78, 3) := by decide +kernel
theorem dX7_assigned_69 : decode cX7_assigned 69 = .ok (.aload_n 0, 1) := by decide +kernel
theorem dX7_assigned_70 : decode cX7_assigned 70 = .ok (.iload_n 1, 1) := by decide +kernel
theorem dX7_assigned_71 : decode cX7_assigned 71 = .ok (.invokevirtual 147, 3) := by decide +kernel
theorem dX7_assigned_74 : decode cX7_assigned 74 = .ok (.istore_n 2, 1) := by decide +kernel
theorem dX7_assigned_75 : decode cX7_assigned 75 = .ok (.goto (-35), 3) := by decide +kernel
theorem dX7_assigned_78 : decode cX7_assigned 78 = .ok (.iload_n 1, 1) := by decide +kernel
theorem dX7_assigned_79 : decode cX7_assigned 79 = .ok (.invokestatic 150, 3) := by decide +kernel
theorem dX7_assigned_82 : decode cX7_assigned 82 = .ok (.ireturn, 1) := by decide +kernel
theorem dX7_assign_0 : decode cX7_assign 0 = .ok (.aload_n 0, 1) := by decide +kernel
theorem dX7_assign_1 : decode cX7_assign 1 = .ok (.invokevirtual 155, 3) := by decide +kernel
theorem dX7_assign_4 : decode cX7_assign 4 = .ok (.ireturn, 1) := by decide +kernel
theorem dX7_exchange_0 : decode cX7_exchange 0 = .ok (.aload_n 0, 1) := by decide +kernel
theorem dX7_exchange_1 : decode cX7_exchange 1 = .ok (.iload_n 1, 1) := by decide +kernel
theorem dX7_exchange_2 : decode cX7_exchange 2 = .ok (.invokevirtual 64, 3) := by decide +kernel
theorem dX7_exchange_5 : decode cX7_exchange 5 = .ok (.ifCond .ne 5, 3) := by decide +kernel
theorem dX7_exchange_8 : decode cX7_exchange 8 = .ok (.iconst (-1), 1) := by decide +kernel
theorem dX7_exchange_9 : decode cX7_exchange 9 = .ok (.ireturn, 1) := by decide +kernel
theorem dX7_exchange_10 : decode cX7_exchange 10 = .ok (.iload_n 2, 1) := by decide +kernel
theorem dX7_exchange_11 : decode cX7_exchange 11 = .ok (.i2l, 1) := by decide +kernel
theorem dX7_exchange_12 : decode cX7_exchange 12 = .ok (.lconst 0, 1) := by decide +kernel
theorem dX7_exchange_13 : decode cX7_exchange 13 = .ok (.ldc2_w 70, 3) := by decide +kernel
theorem dX7_exchange_16 : decode cX7_exchange 16 = .ok (.invokestatic 37, 3) := by decide +kernel
theorem dX7_exchange_19 : decode cX7_exchange 19 = .ok (.ifCond .ne 6, 3) := by decide +kernel
theorem dX7_exchange_22 : decode cX7_exchange 22 = .ok (.bipush (-2), 2) := by decide +kernel
theorem dX7_exchange_24 : decode cX7_exchange 24 = .ok (.ireturn, 1) := by decide +kernel
theorem dX7_exchange_25 : decode cX7_exchange 25 = .ok (.aload_n 0, 1) := by decide +kernel
theorem dX7_exchange_26 : decode cX7_exchange 26 = .ok (.iload_n 1, 1) := by decide +kernel
theorem dX7_exchange_27 : decode cX7_exchange 27 = .ok (.invokevirtual 75, 3) := by decide +kernel
theorem dX7_exchange_30 : decode cX7_exchange 30 = .ok (.istore_n 3, 1) := by decide +kernel
theorem dX7_exchange_31 : decode cX7_exchange 31 = .ok (.iload_n 3, 1) := by decide +kernel
theorem dX7_exchange_32 : decode cX7_exchange 32 = .ok (.ifCond .lt 8, 3) := by decide +kernel
theorem dX7_exchange_35 : decode cX7_exchange 35 = .ok (.iload_n 3, 1) := by decide +kernel
theorem dX7_exchange_36 : decode cX7_exchange 36 = .ok (.iload_n 2, 1) := by decide +kernel
theorem dX7_exchange_37 : decode cX7_exchange 37 = .ok (.if_icmp .ne 6, 3) := by decide +kernel
theorem dX7_exchange_40 : decode cX7_exchange 40 = .ok (.bipush (-3), 2) := by decide +kernel
theorem dX7_exchange_42 : decode cX7_exchange 42 = .ok (.ireturn, 1) := by decide +kernel
theorem dX7_exchange_43 : decode cX7_exchange 43 = .ok (.iconst 1, 1) := by decide +kernel
theorem dX7_exchange_44 : decode cX7_exchange 44 = .ok (.iload_n 1, 1) := by decide +kernel
theorem dX7_exchange_45 : decode cX7_exchange 45 = .ok (.ishl, 1) := by decide +kernel
theorem dX7_exchange_46 : decode cX7_exchange 46 = .ok (.istore 4, 2) := by decide +kernel
theorem dX7_exchange_48 : decode cX7_exchange 48 = .ok (.iconst 1, 1) := by decide +kernel
theorem dX7_exchange_49 : decode cX7_exchange 49 = .ok (.istore 5, 2) := by decide +kernel
theorem dX7_exchange_51 : decode cX7_exchange 51 = .ok (.iload 5, 2) := by decide +kernel
theorem dX7_exchange_53 : decode cX7_exchange 53 = .ok (.ifCond .eq 157, 3) := by decide +kernel
theorem dX7_exchange_56 : decode cX7_exchange 56 = .ok (.iload 4, 2) := by decide +kernel
theorem dX7_exchange_58 : decode cX7_exchange 58 = .ok (.istore 6, 2) := by decide +kernel
theorem dX7_exchange_60 : decode cX7_exchange 60 = .ok (.iconst 0, 1) := by decide +kernel
theorem dX7_exchange_61 : decode cX7_exchange 61 = .ok (.istore 7, 2) := by decide +kernel
theorem dX7_exchange_63 : decode cX7_exchange 63 = .ok (.iload 7, 2) := by decide +kernel
theorem dX7_exchange_65 : decode cX7_exchange 65 = .ok (.aload_n 0, 1) := by decide +kernel
theorem dX7_exchange_66 : decode cX7_exchange 66 = .ok (.getfield 11, 3) := by decide +kernel
theorem dX7_exchange_69 : decode cX7_exchange 69 = .ok (.iconst 0, 1) := by decide +kernel
theorem dX7_exchange_70 : decode cX7_exchange 70 = .ok (.iaload, 1) := by decide +kernel
theorem dX7_exchange_71 : decode cX7_exchange 71 = .ok (.if_icmp .ge 122, 3) := by decide +kernel
theorem dX7_exchange_74 : decode cX7_exchange 74 = .ok (.iconst 0, 1) := by decide +kernel
theorem dX7_exchange_75 : decode cX7_exchange 75 = .ok (.istore 8, 2) := by decide +kernel
theorem dX7_exchange_77 : decode cX7_exchange 77 = .ok (.iload 8, 2) := by decide +kernel
theorem dX7_exchange_79 : decode cX7_exchange 79 = .ok (.aload_n 0, 1) := by decide +kernel
theorem dX7_exchange_80 : decode cX7_exchange 80 = .ok (.getfield 11, 3) := by decide +kernel
theorem dX7_exchange_83 : decode cX7_exchange 83 = .ok (.iconst 0, 1) := by decide +kernel
theorem dX7_exchange_84 : decode cX7_exchange 84 = .ok (.iaload, 1) := by decide +kernel
theorem dX7_exchange_85 : decode cX7_exchange 85 = .ok (.if_icmp .ge 102, 3) := by decide +kernel
theorem dX7_exchange_88 : decode cX7_exchange 88 = .ok (.iload 6, 2) := by decide +kernel
theorem dX7_exchange_90 : decode cX7_exchange 90 = .ok (.iload 7, 2) := by decide +kernel
theorem dX7_exchange_92 : decode cX7_exchange 92 = .ok (.ishr, 1) := by decide +kernel
theorem dX7_exchange_93 : decode cX7_exchange 93 = .ok (.iconst 1, 1) := by decide +kernel
theorem dX7_exchange_94 : decode cX7_exchange 94 = .ok (.iand, 1) := by decide +kernel
theorem dX7_exchange_95 : decode cX7_exchange 95 = .ok (.iconst 1, 1) := by decide +kernel
theorem dX7_exchange_96 : decode cX7_exchange 96 = .ok (.if_icmp .ne 64, 3) := by decide +kernel
theorem dX7_exchange_99 : decode cX7_exchange 99 = .ok (.iload 8, 2) := by decide +kernel
theorem dX7_exchange_101 : decode cX7_exchange 101 = .ok (.iload 7, 2) := by decide +kernel
theorem dX7_exchange_103 : decode cX7_exchange 103 = .ok (.if_icmp .eq 57, 3) := by decide +kernel
theorem dX7_exchange_106 : decode cX7_exchange 106 = .ok (.aload_n 0, 1) := by decide +kernel
theorem dX7_exchange_107 : decode cX7_exchange 107 = .ok (.iload 8, 2) := by decide +kernel
theorem dX7_exchange_109 : decode cX7_exchange 109 = .ok (.invokevirtual 75, 3) := by decide +kernel
theorem dX7_exchange_112 : decode cX7_exchange 112 = .ok (.iload_n 3, 1) := by decide +kernel
theorem dX7_exchange_113 : decode cX7_exchange 113 = .ok (.iload_n 2, 1) := by decide +kernel
theorem dX7_exchange_114 : decode cX7_exchange 114 = .ok (.iadd, 1) := by decide +kernel
theorem dX7_exchange_115 : decode cX7_exchange 115 = .ok (.aload_n 0, 1) := by decide +kernel
theorem dX7_exchange_116 : decode cX7_exchange 116 = .ok (.iload 7, 2) := by decide +kernel
theorem dX7_exchange_118 : decode cX7_exchange 118 = .ok (.invokevirtual 75, 3) := by decide +kernel
theorem dX7_exchange_121 : decode cX7_exchange 121 = .ok (.isub, 1) := by decide +kernel
theorem dX7_exchange_122 : decode cX7_exchange 122 = .ok (.if_icmp .ne 38, 3) := by decide +kernel
theorem dX7_exchange_125 : decode cX7_exchange 125 = .ok (.aload_n 0, 1) := by decide +kernel
theorem dX7_exchange_126 : decode cX7_exchange 126 = .ok (.iload 8, 2) := by decide +kernel
theorem dX7_exchange_128 : decode cX7_exchange 128 = .ok (.invokevirtual 75, 3) := by decide +kernel
theorem dX7_exchange_131 : decode cX7_exchange 131 = .ok (.iload_n 3, 1) := by decide +kernel
theorem dX7_exchange_132 : decode cX7_exchange 132 = .ok (.if_icmp .eq 13, 3) := by decide +kernel
theorem dX7_exchange_135 : decode cX7_exchange 135 = .ok (.aload_n 0, 1) := by decide +kernel
theorem dX7_exchange_136 : decode cX7_exchange 136 = .ok (.iload 8, 2) := by decide +kernel
theorem dX7_exchange_138 : decode cX7_exchange 138 = .ok (.invokevirtual 75, 3) := by decide +kernel
theorem dX7_exchange_141 : decode cX7_exchange 141 = .ok (.iload_n 2, 1) := by decide +kernel
theorem dX7_exchange_142 : decode cX7_exchange 142 = .ok (.if_icmp .ne 18, 3) := by decide +kernel
theorem dX7_exchange_145 : decode cX7_exchange 145 = .ok (.aload_n 0, 1) := by decide +kernel
theorem dX7_exchange_146 : decode cX7_exchange 146 = .ok (.iload 7, 2) := by decide +kernel
theorem dX7_exchange_148 : decode cX7_exchange 148 = .ok (.iload 8, 2) := by decide +kernel
theorem dX7_exchange_150 : decode cX7_exchange 150 = .ok (.invokevirtual 121, 3) := by decide +kernel
theorem dX7_exchange_153 : decode cX7_exchange 153 = .ok (.ifCond .le 7, 3) := by decide +kernel
theorem dX7_exchange_156 : decode cX7_exchange 156 = .ok (.iconst 1, 1) := by decide +kernel
theorem dX7_exchange_157 : decode cX7_exchange 157 = .ok (.goto 4, 3) := by decide +kernel
theorem dX7_exchange_160 : decode cX7_exchange 160 = .ok (.iconst 0, 1) := by decide +kernel
theorem dX7_exchange_161 : decode cX7_exchange 161 = .ok (.istore 9, 2) := by decide +kernel
theorem dX7_exchange_163 : decode cX7_exchange 163 = .ok (.iload 4, 2) := by decide +kernel
theorem dX7_exchange_165 : decode cX7_exchange 165 = .ok (.iload 9, 2) := by decide +kernel
theorem dX7_exchange_167 : decode cX7_exchange 167 = .ok (.ifCond .eq 10, 3) := by decide +kernel
theorem dX7_exchange_170 : decode cX7_exchange 170 = .ok (.iconst 1, 1) := by decide +kernel
theorem dX7_exchange_171 : decode cX7_exchange 171 = .ok (.iload 8, 2) := by decide +kernel
theorem dX7_exchange_173 : decode cX7_exchange 173 = .ok (.ishl, 1) := by decide +kernel
theorem dX7_exchange_174 : decode cX7_exchange 174 = .ok (.goto 4, 3) := by decide +kernel
theorem dX7_exchange_177 : decode cX7_exchange 177 = .ok (.iconst 0, 1) := by decide +kernel
theorem dX7_exchange_178 : decode cX7_exchange 178 = .ok (.ior, 1) := by decide +kernel
theorem dX7_exchange_179 : decode cX7_exchange 179 = .ok (.istore 4, 2) := by decide +kernel
theorem dX7_exchange_181 : decode cX7_exchange 181 = .ok (.iinc 8 1, 3) := by decide +kernel
theorem dX7_exchange_184 : decode cX7_exchange 184 = .ok (.goto (-107), 3) := by decide +kernel
theorem dX7_exchange_187 : decode cX7_exchange 187 = .ok (.iinc 7 1, 3) := by decide +kernel
theorem dX7_exchange_190 : decode cX7_exchange 190 = .ok (.goto (-127), 3) := by decide +kernel
theorem dX7_exchange_193 : decode cX7_exchange 193 = .ok (.iload 4, 2) := by decide +kernel
theorem dX7_exchange_195 : decode cX7_exchange 195 = .ok (.iload 6, 2) := by decide +kernel
theorem dX7_exchange_197 : decode cX7_exchange 197 = .ok (.if_icmp .eq 7, 3) := by decide +kernel
theorem dX7_exchange_200 : decode cX7_exchange 200 = .ok (.iconst 1, 1) := by decide +kernel
theorem dX7_exchange_201 : decode cX7_exchange 201 = .ok (.goto 4, 3) := by decide +kernel
theorem dX7_exchange_204 : decode cX7_exchange 204 = .ok (.iconst 0, 1) := by decide +kernel
theorem dX7_exchange_205 : decode cX7_exchange 205 = .ok (.istore 5, 2) := by decide +kernel
theorem dX7_exchange_207 : decode cX7_exchange 207 = .ok (.goto (-156), 3) := by decide +kernel
theorem dX7_exchange_210 : decode cX7_exchange 210 = .ok (.iconst 0, 1) := by decide +kernel
theorem dX7_exchange_211 : decode cX7_exchange 211 = .ok (.istore 6, 2) := by decide +kernel
theorem dX7_exchange_213 : decode cX7_exchange 213 = .ok (.iload 6, 2) := by decide +kernel
theorem dX7_exchange_215 : decode cX7_exchange 215 = .ok (.aload_n 0, 1) := by decide +kernel
theorem dX7_exchange_216 : decode cX7_exchange 216 = .ok (.getfield 11, 3) := by decide +kernel
theorem dX7_exchange_219 : decode cX7_exchange 219 = .ok (.iconst 0, 1) := by decide +kernel
theorem dX7_exchange_220 : decode cX7_exchange 220 = .ok (.iaload, 1) := by decide +kernel
theorem dX7_exchange_221 : decode cX7_exchange 221 = .ok (.if_icmp .ge 32, 3) := by decide +kernel
theorem dX7_exchange_224 : decode cX7_exchange 224 = .ok (.iload 4, 2) := by decide +kernel
theorem dX7_exchange_226 : decode cX7_exchange 226 = .ok (.iload 6, 2) := by decide +kernel
theorem dX7_exchange_228 : decode cX7_exchange 228 = .ok (.ishr, 1) := by decide +kernel
theorem dX7_exchange_229 : decode cX7_exchange 229 = .ok (.iconst 1, 1) := by decide +kernel
theorem dX7_exchange_230 : decode cX7_exchange 230 = .ok (.iand, 1) := by decide +kernel
theorem dX7_exchange_231 : decode cX7_exchange 231 = .ok (.iconst 1, 1) := by decide +kernel
theorem dX7_exchange_232 : decode cX7_exchange 232 = .ok (.if_icmp .ne 15, 3) := by decide +kernel
theorem dX7_exchange_235 : decode cX7_exchange 235 = .ok (.aload_n 0, 1) := by decide +kernel
theorem dX7_exchange_236 : decode cX7_exchange 236 = .ok (.iload 6, 2) := by decide +kernel
theorem dX7_exchange_238 : decode cX7_exchange 238 = .ok (.invokevirtual 72, 3) := by decide +kernel
theorem dX7_exchange_241 : decode cX7_exchange 241 = .ok (.ifCond .eq 6, 3) := by decide +kernel
theorem dX7_exchange_244 : decode cX7_exchange 244 = .ok (.bipush (-5), 2) := by decide +kernel
theorem dX7_exchange_246 : decode cX7_exchange 246 = .ok (.ireturn, 1) := by decide +kernel
theorem dX7_exchange_247 : decode cX7_exchange 247 = .ok (.iinc 6 1, 3) := by decide +kernel
theorem dX7_exchange_250 : decode cX7_exchange 250 = .ok (.goto (-37), 3) := by decide +kernel
theorem dX7_exchange_253 : decode cX7_exchange 253 = .ok (.aload_n 0, 1) := by decide +kernel
theorem dX7_exchange_254 : decode cX7_exchange 254 = .ok (.invokevirtual 159, 3) := by decide +kernel
theorem dX7_exchange_257 : decode cX7_exchange 257 = .ok (.istore 6, 2) := by decide +kernel
theorem dX7_exchange_259 : decode cX7_exchange 259 = .ok (.aload_n 0, 1) := by decide +kernel
theorem dX7_exchange_260 : decode cX7_exchange 260 = .ok (.iload 4, 2) := by decide +kernel
theorem dX7_exchange_262 : decode cX7_exchange 262 = .ok (.iload_n 3, 1) := by decide +kernel
theorem dX7_exchange_263 : decode cX7_exchange 263 = .ok (.iload_n 2, 1) := by decide +kernel
theorem dX7_exchange_264 : decode cX7_exchange 264 = .ok (.iadd, 1) := by decide +kernel
theorem dX7_exchange_265 : decode cX7_exchange 265 = .ok (.invokevirtual 162, 3) := by decide +kernel
theorem dX7_exchange_268 : decode cX7_exchange 268 = .ok (.aload_n 0, 1) := by decide +kernel
theorem dX7_exchange_269 : decode cX7_exchange 269 = .ok (.invokevirtual 159, 3) := by decide +kernel
theorem dX7_exchange_272 : decode cX7_exchange 272 = .ok (.iload 6, 2) := by decide +kernel
theorem dX7_exchange_274 : decode cX7_exchange 274 = .ok (.if_icmp .le 15, 3) := by decide +kernel
theorem dX7_exchange_277 : decode cX7_exchange 277 = .ok (.aload_n 0, 1) := by decide +kernel
theorem dX7_exchange_278 : decode cX7_exchange 278 = .ok (.iload 4, 2) := by decide +kernel
theorem dX7_exchange_280 : decode cX7_exchange 280 = .ok (.iload_n 3, 1) := by decide +kernel
theorem dX7_exchange_281 : decode cX7_exchange 281 = .ok (.iload_n 2, 1) := by decide +kernel
theorem dX7_exchange_282 : decode cX7_exchange 282 = .ok (.iadd, 1) := by decide +kernel
theorem dX7_exchange_283 : decode cX7_exchange 283 = .ok (.invokevirtual 162, 3) := by decide +kernel
theorem dX7_exchange_286 : decode cX7_exchange 286 = .ok (.bipush (-6), 2) := by decide +kernel
theorem dX7_exchange_288 : decode cX7_exchange 288 = .ok (.ireturn, 1) := by decide +kernel
theorem dX7_exchange_289 : decode cX7_exchange 289 = .ok (.iload 4, 2) := by decide +kernel
theorem dX7_exchange_291 : decode cX7_exchange 291 = .ok (.invokestatic 150, 3) := by decide +kernel
theorem dX7_exchange_294 : decode cX7_exchange 294 = .ok (.ireturn, 1) := by decide +kernel
theorem dX7_turns_0 : decode cX7_turns 0 = .ok (.iconst 0, 1) := by decide +kernel
theorem dX7_turns_1 : decode cX7_turns 1 = .ok (.istore_n 3, 1) := by decide +kernel
theorem dX7_turns_2 : decode cX7_turns 2 = .ok (.iload_n 3, 1) := by decide +kernel
theorem dX7_turns_3 : decode cX7_turns 3 = .ok (.aload_n 0, 1) := by decide +kernel
theorem dX7_turns_4 : decode cX7_turns 4 = .ok (.getfield 11, 3) := by decide +kernel
theorem dX7_turns_7 : decode cX7_turns 7 = .ok (.iconst 0, 1) := by decide +kernel
theorem dX7_turns_8 : decode cX7_turns 8 = .ok (.iaload, 1) := by decide +kernel
theorem dX7_turns_9 : decode cX7_turns 9 = .ok (.if_icmp .ge 30, 3) := by decide +kernel
theorem dX7_turns_12 : decode cX7_turns 12 = .ok (.iload_n 1, 1) := by decide +kernel
theorem dX7_turns_13 : decode cX7_turns 13 = .ok (.iload_n 3, 1) := by decide +kernel
theorem dX7_turns_14 : decode cX7_turns 14 = .ok (.ishr, 1) := by decide +kernel
theorem dX7_turns_15 : decode cX7_turns 15 = .ok (.iconst 1, 1) := by decide +kernel
theorem dX7_turns_16 : decode cX7_turns 16 = .ok (.iand, 1) := by decide +kernel
theorem dX7_turns_17 : decode cX7_turns 17 = .ok (.iconst 1, 1) := by decide +kernel
theorem dX7_turns_18 : decode cX7_turns 18 = .ok (.if_icmp .ne 15, 3) := by decide +kernel
theorem dX7_turns_21 : decode cX7_turns 21 = .ok (.aload_n 0, 1) := by decide +kernel
theorem dX7_turns_22 : decode cX7_turns 22 = .ok (.iload_n 3, 1) := by decide +kernel
theorem dX7_turns_23 : decode cX7_turns 23 = .ok (.iload_n 2, 1) := by decide +kernel
theorem dX7_turns_24 : decode cX7_turns 24 = .ok (.aload_n 0, 1) := by decide +kernel
theorem dX7_turns_25 : decode cX7_turns 25 = .ok (.iload_n 3, 1) := by decide +kernel
theorem dX7_turns_26 : decode cX7_turns 26 = .ok (.invokevirtual 75, 3) := by decide +kernel
theorem dX7_turns_29 : decode cX7_turns 29 = .ok (.isub, 1) := by decide +kernel
theorem dX7_turns_30 : decode cX7_turns 30 = .ok (.invokevirtual 78, 3) := by decide +kernel
theorem dX7_turns_33 : decode cX7_turns 33 = .ok (.iinc 3 1, 3) := by decide +kernel
theorem dX7_turns_36 : decode cX7_turns 36 = .ok (.goto (-34), 3) := by decide +kernel
theorem dX7_turns_39 : decode cX7_turns 39 = .ok (.return_, 1) := by decide +kernel
theorem dX7_span_0 : decode cX7_span 0 = .ok (.bipush 20, 2) := by decide +kernel
theorem dX7_span_2 : decode cX7_span 2 = .ok (.istore_n 1, 1) := by decide +kernel
theorem dX7_span_3 : decode cX7_span 3 = .ok (.iconst (-1), 1) := by decide +kernel
theorem dX7_span_4 : decode cX7_span 4 = .ok (.istore_n 2, 1) := by decide +kernel
theorem dX7_span_5 : decode cX7_span 5 = .ok (.iconst 0, 1) := by decide +kernel
theorem dX7_span_6 : decode cX7_span 6 = .ok (.istore_n 3, 1) := by decide +kernel
theorem dX7_span_7 : decode cX7_span 7 = .ok (.iload_n 3, 1) := by decide +kernel
theorem dX7_span_8 : decode cX7_span 8 = .ok (.aload_n 0, 1) := by decide +kernel
theorem dX7_span_9 : decode cX7_span 9 = .ok (.getfield 11, 3) := by decide +kernel
theorem dX7_span_12 : decode cX7_span 12 = .ok (.iconst 0, 1) := by decide +kernel
theorem dX7_span_13 : decode cX7_span 13 = .ok (.iaload, 1) := by decide +kernel
theorem dX7_span_14 : decode cX7_span 14 = .ok (.if_icmp .ge 37, 3) := by decide +kernel
theorem dX7_span_17 : decode cX7_span 17 = .ok (.aload_n 0, 1) := by decide +kernel
theorem dX7_span_18 : decode cX7_span 18 = .ok (.iload_n 3, 1) := by decide +kernel
theorem dX7_span_19 : decode cX7_span 19 = .ok (.invokevirtual 75, 3) := by decide +kernel
theorem dX7_span_22 : decode cX7_span 22 = .ok (.ifCond .lt 23, 3) := by decide +kernel
theorem dX7_span_25 : decode cX7_span 25 = .ok (.iload_n 1, 1) := by decide +kernel
theorem dX7_span_26 : decode cX7_span 26 = .ok (.aload_n 0, 1) := by decide +kernel
theorem dX7_span_27 : decode cX7_span 27 = .ok (.iload_n 3, 1) := by decide +kernel
theorem dX7_span_28 : decode cX7_span 28 = .ok (.invokevirtual 75, 3) := by decide +kernel
theorem dX7_span_31 : decode cX7_span 31 = .ok (.invokestatic 165, 3) := by decide +kernel
theorem dX7_span_34 : decode cX7_span 34 = .ok (.istore_n 1, 1) := by decide +kernel
theorem dX7_span_35 : decode cX7_span 35 = .ok (.iload_n 2, 1) := by decide +kernel
theorem dX7_span_36 : decode cX7_span 36 = .ok (.aload_n 0, 1) := by decide +kernel
theorem dX7_span_37 : decode cX7_span 37 = .ok (.iload_n 3, 1) := by decide +kernel
theorem dX7_span_38 : decode cX7_span 38 = .ok (.invokevirtual 75, 3) := by decide +kernel
theorem dX7_span_41 : decode cX7_span 41 = .ok (.invokestatic 113, 3) := by decide +kernel
theorem dX7_span_44 : decode cX7_span 44 = .ok (.istore_n 2, 1) := by decide +kernel
theorem dX7_span_45 : decode cX7_span 45 = .ok (.iinc 3 1, 3) := by decide +kernel
theorem dX7_span_48 : decode cX7_span 48 = .ok (.goto (-41), 3) := by decide +kernel
theorem dX7_span_51 : decode cX7_span 51 = .ok (.iload_n 2, 1) := by decide +kernel
theorem dX7_span_52 : decode cX7_span 52 = .ok (.ifCond .ge 7, 3) := by decide +kernel
theorem dX7_span_55 : decode cX7_span 55 = .ok (.iconst 0, 1) := by decide +kernel
theorem dX7_span_56 : decode cX7_span 56 = .ok (.goto 8, 3) := by decide +kernel
theorem dX7_span_59 : decode cX7_span 59 = .ok (.iload_n 2, 1) := by decide +kernel
theorem dX7_span_60 : decode cX7_span 60 = .ok (.iload_n 1, 1) := by decide +kernel
theorem dX7_span_61 : decode cX7_span 61 = .ok (.isub, 1) := by decide +kernel
theorem dX7_span_62 : decode cX7_span 62 = .ok (.iconst 1, 1) := by decide +kernel
theorem dX7_span_63 : decode cX7_span 63 = .ok (.iadd, 1) := by decide +kernel
theorem dX7_span_64 : decode cX7_span 64 = .ok (.ireturn, 1) := by decide +kernel
theorem dX7_isClique_0 : decode cX7_isClique 0 = .ok (.iconst 0, 1) := by decide +kernel
theorem dX7_isClique_1 : decode cX7_isClique 1 = .ok (.istore_n 3, 1) := by decide +kernel
theorem dX7_isClique_2 : decode cX7_isClique 2 = .ok (.iload_n 3, 1) := by decide +kernel
theorem dX7_isClique_3 : decode cX7_isClique 3 = .ok (.aload_n 0, 1) := by decide +kernel
theorem dX7_isClique_4 : decode cX7_isClique 4 = .ok (.getfield 11, 3) := by decide +kernel
theorem dX7_isClique_7 : decode cX7_isClique 7 = .ok (.iconst 0, 1) := by decide +kernel
theorem dX7_isClique_8 : decode cX7_isClique 8 = .ok (.iaload, 1) := by decide +kernel
theorem dX7_isClique_9 : decode cX7_isClique 9 = .ok (.if_icmp .ge 56, 3) := by decide +kernel
theorem dX7_isClique_12 : decode cX7_isClique 12 = .ok (.iconst 0, 1) := by decide +kernel
theorem dX7_isClique_13 : decode cX7_isClique 13 = .ok (.istore 4, 2) := by decide +kernel
theorem dX7_isClique_15 : decode cX7_isClique 15 = .ok (.iload 4, 2) := by decide +kernel
theorem dX7_isClique_17 : decode cX7_isClique 17 = .ok (.iload_n 3, 1) := by decide +kernel
theorem dX7_isClique_18 : decode cX7_isClique 18 = .ok (.if_icmp .ge 41, 3) := by decide +kernel
theorem dX7_isClique_21 : decode cX7_isClique 21 = .ok (.iload_n 1, 1) := by decide +kernel
theorem dX7_isClique_22 : decode cX7_isClique 22 = .ok (.iload_n 3, 1) := by decide +kernel
theorem dX7_isClique_23 : decode cX7_isClique 23 = .ok (.ishr, 1) := by decide +kernel
theorem dX7_isClique_24 : decode cX7_isClique 24 = .ok (.iconst 1, 1) := by decide +kernel
theorem dX7_isClique_25 : decode cX7_isClique 25 = .ok (.iand, 1) := by decide +kernel
theorem dX7_isClique_26 : decode cX7_isClique 26 = .ok (.iconst 1, 1) := by decide +kernel
theorem dX7_isClique_27 : decode cX7_isClique 27 = .ok (.if_icmp .ne 26, 3) := by decide +kernel
theorem dX7_isClique_30 : decode cX7_isClique 30 = .ok (.iload_n 1, 1) := by decide +kernel
theorem dX7_isClique_31 : decode cX7_isClique 31 = .ok (.iload 4, 2) := by decide +kernel
theorem dX7_isClique_33 : decode cX7_isClique 33 = .ok (.ishr, 1) := by decide +kernel
theorem dX7_isClique_34 : decode cX7_isClique 34 = .ok (.iconst 1, 1) := by decide +kernel
theorem dX7_isClique_35 : decode cX7_isClique 35 = .ok (.iand, 1) := by decide +kernel
theorem dX7_isClique_36 : decode cX7_isClique 36 = .ok (.iconst 1, 1) := by decide +kernel
theorem dX7_isClique_37 : decode cX7_isClique 37 = .ok (.if_icmp .ne 16, 3) := by decide +kernel
theorem dX7_isClique_40 : decode cX7_isClique 40 = .ok (.aload_n 0, 1) := by decide +kernel
theorem dX7_isClique_41 : decode cX7_isClique 41 = .ok (.iload_n 3, 1) := by decide +kernel
theorem dX7_isClique_42 : decode cX7_isClique 42 = .ok (.iload 4, 2) := by decide +kernel
theorem dX7_isClique_44 : decode cX7_isClique 44 = .ok (.invokevirtual 121, 3) := by decide +kernel
theorem dX7_isClique_47 : decode cX7_isClique 47 = .ok (.iload_n 2, 1) := by decide +kernel
theorem dX7_isClique_48 : decode cX7_isClique 48 = .ok (.if_icmp .ge 5, 3) := by decide +kernel
theorem dX7_isClique_51 : decode cX7_isClique 51 = .ok (.iconst 0, 1) := by decide +kernel
theorem dX7_isClique_52 : decode cX7_isClique 52 = .ok (.ireturn, 1) := by decide +kernel
theorem dX7_isClique_53 : decode cX7_isClique 53 = .ok (.iinc 4 1, 3) := by decide +kernel
theorem dX7_isClique_56 : decode cX7_isClique 56 = .ok (.goto (-41), 3) := by decide +kernel
theorem dX7_isClique_59 : decode cX7_isClique 59 = .ok (.iinc 3 1, 3) := by decide +kernel
theorem dX7_isClique_62 : decode cX7_isClique 62 = .ok (.goto (-60), 3) := by decide +kernel
theorem dX7_isClique_65 : decode cX7_isClique 65 = .ok (.iconst 1, 1) := by decide +kernel
theorem dX7_isClique_66 : decode cX7_isClique 66 = .ok (.ireturn, 1) := by decide +kernel
theorem dX7_cliqueBy_0 : decode cX7_cliqueBy 0 = .ok (.iconst 0, 1) := by decide +kernel
theorem dX7_cliqueBy_1 : decode cX7_cliqueBy 1 = .ok (.istore_n 2, 1) := by decide +kernel
theorem dX7_cliqueBy_2 : decode cX7_cliqueBy 2 = .ok (.iconst 1, 1) := by decide +kernel
theorem dX7_cliqueBy_3 : decode cX7_cliqueBy 3 = .ok (.istore_n 3, 1) := by decide +kernel
theorem dX7_cliqueBy_4 : decode cX7_cliqueBy 4 = .ok (.iload_n 3, 1) := by decide +kernel
theorem dX7_cliqueBy_5 : decode cX7_cliqueBy 5 = .ok (.iconst 1, 1) := by decide +kernel
theorem dX7_cliqueBy_6 : decode cX7_cliqueBy 6 = .ok (.aload_n 0, 1) := by decide +kernel
theorem dX7_cliqueBy_7 : decode cX7_cliqueBy 7 = .ok (.getfield 11, 3) := by decide +kernel
theorem dX7_cliqueBy_10 : decode cX7_cliqueBy 10 = .ok (.iconst 0, 1) := by decide +kernel
theorem dX7_cliqueBy_11 : decode cX7_cliqueBy 11 = .ok (.iaload, 1) := by decide +kernel
theorem dX7_cliqueBy_12 : decode cX7_cliqueBy 12 = .ok (.ishl, 1) := by decide +kernel
theorem dX7_cliqueBy_13 : decode cX7_cliqueBy 13 = .ok (.if_icmp .ge 35, 3) := by decide +kernel
theorem dX7_cliqueBy_16 : decode cX7_cliqueBy 16 = .ok (.iload_n 3, 1) := by decide +kernel
theorem dX7_cliqueBy_17 : decode cX7_cliqueBy 17 = .ok (.invokestatic 150, 3) := by decide +kernel
theorem dX7_cliqueBy_20 : decode cX7_cliqueBy 20 = .ok (.iload_n 2, 1) := by decide +kernel
theorem dX7_cliqueBy_21 : decode cX7_cliqueBy 21 = .ok (.invokestatic 150, 3) := by decide +kernel
theorem dX7_cliqueBy_24 : decode cX7_cliqueBy 24 = .ok (.if_icmp .le 16, 3) := by decide +kernel
theorem dX7_cliqueBy_27 : decode cX7_cliqueBy 27 = .ok (.aload_n 0, 1) := by decide +kernel
theorem dX7_cliqueBy_28 : decode cX7_cliqueBy 28 = .ok (.iload_n 3, 1) := by decide +kernel
theorem dX7_cliqueBy_29 : decode cX7_cliqueBy 29 = .ok (.iload_n 1, 1) := by decide +kernel
theorem dX7_cliqueBy_30 : decode cX7_cliqueBy 30 = .ok (.invokevirtual 168, 3) := by decide +kernel
theorem dX7_cliqueBy_33 : decode cX7_cliqueBy 33 = .ok (.ifCond .eq 7, 3) := by decide +kernel
theorem dX7_cliqueBy_36 : decode cX7_cliqueBy 36 = .ok (.iload_n 3, 1) := by decide +kernel
theorem dX7_cliqueBy_37 : decode cX7_cliqueBy 37 = .ok (.goto 4, 3) := by decide +kernel
theorem dX7_cliqueBy_40 : decode cX7_cliqueBy 40 = .ok (.iload_n 2, 1) := by decide +kernel
theorem dX7_cliqueBy_41 : decode cX7_cliqueBy 41 = .ok (.istore_n 2, 1) := by decide +kernel
theorem dX7_cliqueBy_42 : decode cX7_cliqueBy 42 = .ok (.iinc 3 1, 3) := by decide +kernel
theorem dX7_cliqueBy_45 : decode cX7_cliqueBy 45 = .ok (.goto (-41), 3) := by decide +kernel
theorem dX7_cliqueBy_48 : decode cX7_cliqueBy 48 = .ok (.iload_n 2, 1) := by decide +kernel
theorem dX7_cliqueBy_49 : decode cX7_cliqueBy 49 = .ok (.ireturn, 1) := by decide +kernel
theorem dX7_clique_0 : decode cX7_clique 0 = .ok (.iload_n 1, 1) := by decide +kernel
theorem dX7_clique_1 : decode cX7_clique 1 = .ok (.i2l, 1) := by decide +kernel
theorem dX7_clique_2 : decode cX7_clique 2 = .ok (.lconst 1, 1) := by decide +kernel
theorem dX7_clique_3 : decode cX7_clique 3 = .ok (.ldc2_w 62, 3) := by decide +kernel
theorem dX7_clique_6 : decode cX7_clique 6 = .ok (.invokestatic 37, 3) := by decide +kernel
theorem dX7_clique_9 : decode cX7_clique 9 = .ok (.ifCond .eq 11, 3) := by decide +kernel
theorem dX7_clique_12 : decode cX7_clique 12 = .ok (.aload_n 0, 1) := by decide +kernel
theorem dX7_clique_13 : decode cX7_clique 13 = .ok (.iload_n 1, 1) := by decide +kernel
theorem dX7_clique_14 : decode cX7_clique 14 = .ok (.invokevirtual 171, 3) := by decide +kernel
theorem dX7_clique_17 : decode cX7_clique 17 = .ok (.goto 5, 3) := by decide +kernel
theorem dX7_clique_20 : decode cX7_clique 20 = .ok (.bipush (-2), 2) := by decide +kernel
theorem dX7_clique_22 : decode cX7_clique 22 = .ok (.ireturn, 1) := by decide +kernel
theorem dX7_bound_0 : decode cX7_bound 0 = .ok (.iconst 0, 1) := by decide +kernel
theorem dX7_bound_1 : decode cX7_bound 1 = .ok (.istore_n 1, 1) := by decide +kernel
theorem dX7_bound_2 : decode cX7_bound 2 = .ok (.iconst 1, 1) := by decide +kernel
theorem dX7_bound_3 : decode cX7_bound 3 = .ok (.istore_n 2, 1) := by decide +kernel
theorem dX7_bound_4 : decode cX7_bound 4 = .ok (.iload_n 2, 1) := by decide +kernel
theorem dX7_bound_5 : decode cX7_bound 5 = .ok (.iconst 4, 1) := by decide +kernel
theorem dX7_bound_6 : decode cX7_bound 6 = .ok (.if_icmp .gt 38, 3) := by decide +kernel
theorem dX7_bound_9 : decode cX7_bound 9 = .ok (.aload_n 0, 1) := by decide +kernel
theorem dX7_bound_10 : decode cX7_bound 10 = .ok (.iload_n 2, 1) := by decide +kernel
theorem dX7_bound_11 : decode cX7_bound 11 = .ok (.invokevirtual 171, 3) := by decide +kernel
theorem dX7_bound_14 : decode cX7_bound 14 = .ok (.invokestatic 150, 3) := by decide +kernel
theorem dX7_bound_17 : decode cX7_bound 17 = .ok (.istore_n 3, 1) := by decide +kernel
theorem dX7_bound_18 : decode cX7_bound 18 = .ok (.iload_n 3, 1) := by decide +kernel
theorem dX7_bound_19 : decode cX7_bound 19 = .ok (.ifCond .ne 7, 3) := by decide +kernel
theorem dX7_bound_22 : decode cX7_bound 22 = .ok (.iload_n 1, 1) := by decide +kernel
theorem dX7_bound_23 : decode cX7_bound 23 = .ok (.goto 14, 3) := by decide +kernel
theorem dX7_bound_26 : decode cX7_bound 26 = .ok (.iload_n 1, 1) := by decide +kernel
theorem dX7_bound_27 : decode cX7_bound 27 = .ok (.iload_n 3, 1) := by decide +kernel
theorem dX7_bound_28 : decode cX7_bound 28 = .ok (.iconst 1, 1) := by decide +kernel
theorem dX7_bound_29 : decode cX7_bound 29 = .ok (.isub, 1) := by decide +kernel
theorem dX7_bound_30 : decode cX7_bound 30 = .ok (.iload_n 2, 1) := by decide +kernel
theorem dX7_bound_31 : decode cX7_bound 31 = .ok (.imul, 1) := by decide +kernel
theorem dX7_bound_32 : decode cX7_bound 32 = .ok (.iconst 1, 1) := by decide +kernel
theorem dX7_bound_33 : decode cX7_bound 33 = .ok (.iadd, 1) := by decide +kernel
theorem dX7_bound_34 : decode cX7_bound 34 = .ok (.invokestatic 113, 3) := by decide +kernel
theorem dX7_bound_37 : decode cX7_bound 37 = .ok (.istore_n 1, 1) := by decide +kernel
theorem dX7_bound_38 : decode cX7_bound 38 = .ok (.iinc 2 1, 3) := by decide +kernel
theorem dX7_bound_41 : decode cX7_bound 41 = .ok (.goto (-37), 3) := by decide +kernel
theorem dX7_bound_44 : decode cX7_bound 44 = .ok (.iload_n 1, 1) := by decide +kernel
theorem dX7_bound_45 : decode cX7_bound 45 = .ok (.ireturn, 1) := by decide +kernel
theorem dX7_can_0 : decode cX7_can 0 = .ok (.iconst (-1), 1) := by decide +kernel
theorem dX7_can_1 : decode cX7_can 1 = .ok (.istore_n 2, 1) := by decide +kernel
theorem dX7_can_2 : decode cX7_can 2 = .ok (.bipush 99, 2) := by decide +kernel
theorem dX7_can_4 : decode cX7_can 4 = .ok (.istore_n 3, 1) := by decide +kernel
theorem dX7_can_5 : decode cX7_can 5 = .ok (.iconst 0, 1) := by decide +kernel
theorem dX7_can_6 : decode cX7_can 6 = .ok (.istore 4, 2) := by decide +kernel
theorem dX7_can_8 : decode cX7_can 8 = .ok (.iload 4, 2) := by decide +kernel
theorem dX7_can_10 : decode cX7_can 10 = .ok (.aload_n 0, 1) := by decide +kernel
theorem dX7_can_11 : decode cX7_can 11 = .ok (.getfield 11, 3) := by decide +kernel
theorem dX7_can_14 : decode cX7_can 14 = .ok (.iconst 0, 1) := by decide +kernel
theorem dX7_can_15 : decode cX7_can 15 = .ok (.iaload, 1) := by decide +kernel
theorem dX7_can_16 : decode cX7_can 16 = .ok (.if_icmp .ge 47, 3) := by decide +kernel
theorem dX7_can_19 : decode cX7_can 19 = .ok (.aload_n 0, 1) := by decide +kernel
theorem dX7_can_20 : decode cX7_can 20 = .ok (.iload 4, 2) := by decide +kernel
theorem dX7_can_22 : decode cX7_can 22 = .ok (.invokevirtual 75, 3) := by decide +kernel
theorem dX7_can_25 : decode cX7_can 25 = .ok (.ifCond .ge 32, 3) := by decide +kernel
theorem dX7_can_28 : decode cX7_can 28 = .ok (.aload_n 0, 1) := by decide +kernel
theorem dX7_can_29 : decode cX7_can 29 = .ok (.iload 4, 2) := by decide +kernel
theorem dX7_can_31 : decode cX7_can 31 = .ok (.iload_n 1, 1) := by decide +kernel
theorem dX7_can_32 : decode cX7_can 32 = .ok (.invokevirtual 135, 3) := by decide +kernel
theorem dX7_can_35 : decode cX7_can 35 = .ok (.istore 5, 2) := by decide +kernel
theorem dX7_can_37 : decode cX7_can 37 = .ok (.iload 5, 2) := by decide +kernel
theorem dX7_can_39 : decode cX7_can 39 = .ok (.iload_n 3, 1) := by decide +kernel
theorem dX7_can_40 : decode cX7_can 40 = .ok (.if_icmp .ge 8, 3) := by decide +kernel
theorem dX7_can_43 : decode cX7_can 43 = .ok (.iload 4, 2) := by decide +kernel
theorem dX7_can_45 : decode cX7_can 45 = .ok (.goto 4, 3) := by decide +kernel
theorem dX7_can_48 : decode cX7_can 48 = .ok (.iload_n 2, 1) := by decide +kernel
theorem dX7_can_49 : decode cX7_can 49 = .ok (.istore_n 2, 1) := by decide +kernel
theorem dX7_can_50 : decode cX7_can 50 = .ok (.iload_n 3, 1) := by decide +kernel
theorem dX7_can_51 : decode cX7_can 51 = .ok (.iload 5, 2) := by decide +kernel
theorem dX7_can_53 : decode cX7_can 53 = .ok (.invokestatic 165, 3) := by decide +kernel
theorem dX7_can_56 : decode cX7_can 56 = .ok (.istore_n 3, 1) := by decide +kernel
theorem dX7_can_57 : decode cX7_can 57 = .ok (.iinc 4 1, 3) := by decide +kernel
theorem dX7_can_60 : decode cX7_can 60 = .ok (.goto (-52), 3) := by decide +kernel
theorem dX7_can_63 : decode cX7_can 63 = .ok (.iload_n 2, 1) := by decide +kernel
theorem dX7_can_64 : decode cX7_can 64 = .ok (.ifCond .ge 5, 3) := by decide +kernel
theorem dX7_can_67 : decode cX7_can 67 = .ok (.iconst 1, 1) := by decide +kernel
theorem dX7_can_68 : decode cX7_can 68 = .ok (.ireturn, 1) := by decide +kernel
theorem dX7_can_69 : decode cX7_can 69 = .ok (.iconst 0, 1) := by decide +kernel
theorem dX7_can_70 : decode cX7_can 70 = .ok (.istore 4, 2) := by decide +kernel
theorem dX7_can_72 : decode cX7_can 72 = .ok (.iload 4, 2) := by decide +kernel
theorem dX7_can_74 : decode cX7_can 74 = .ok (.iload_n 1, 1) := by decide +kernel
theorem dX7_can_75 : decode cX7_can 75 = .ok (.if_icmp .ge 50, 3) := by decide +kernel
theorem dX7_can_78 : decode cX7_can 78 = .ok (.iload_n 3, 1) := by decide +kernel
theorem dX7_can_79 : decode cX7_can 79 = .ok (.ifCond .le 46, 3) := by decide +kernel
theorem dX7_can_82 : decode cX7_can 82 = .ok (.aload_n 0, 1) := by decide +kernel
theorem dX7_can_83 : decode cX7_can 83 = .ok (.iload_n 2, 1) := by decide +kernel
theorem dX7_can_84 : decode cX7_can 84 = .ok (.iload 4, 2) := by decide +kernel
theorem dX7_can_86 : decode cX7_can 86 = .ok (.invokevirtual 130, 3) := by decide +kernel
theorem dX7_can_89 : decode cX7_can 89 = .ok (.ifCond .eq 30, 3) := by decide +kernel
theorem dX7_can_92 : decode cX7_can 92 = .ok (.aload_n 0, 1) := by decide +kernel
theorem dX7_can_93 : decode cX7_can 93 = .ok (.iload_n 2, 1) := by decide +kernel
theorem dX7_can_94 : decode cX7_can 94 = .ok (.iload 4, 2) := by decide +kernel
theorem dX7_can_96 : decode cX7_can 96 = .ok (.invokevirtual 78, 3) := by decide +kernel
theorem dX7_can_99 : decode cX7_can 99 = .ok (.aload_n 0, 1) := by decide +kernel
theorem dX7_can_100 : decode cX7_can 100 = .ok (.iload_n 1, 1) := by decide +kernel
theorem dX7_can_101 : decode cX7_can 101 = .ok (.invokevirtual 174, 3) := by decide +kernel
theorem dX7_can_104 : decode cX7_can 104 = .ok (.istore 5, 2) := by decide +kernel
theorem dX7_can_106 : decode cX7_can 106 = .ok (.aload_n 0, 1) := by decide +kernel
theorem dX7_can_107 : decode cX7_can 107 = .ok (.iload_n 2, 1) := by decide +kernel
theorem dX7_can_108 : decode cX7_can 108 = .ok (.iconst (-1), 1) := by decide +kernel
theorem dX7_can_109 : decode cX7_can 109 = .ok (.invokevirtual 78, 3) := by decide +kernel
theorem dX7_can_112 : decode cX7_can 112 = .ok (.iload 5, 2) := by decide +kernel
theorem dX7_can_114 : decode cX7_can 114 = .ok (.ifCond .eq 5, 3) := by decide +kernel
theorem dX7_can_117 : decode cX7_can 117 = .ok (.iconst 1, 1) := by decide +kernel
theorem dX7_can_118 : decode cX7_can 118 = .ok (.ireturn, 1) := by decide +kernel
theorem dX7_can_119 : decode cX7_can 119 = .ok (.iinc 4 1, 3) := by decide +kernel
theorem dX7_can_122 : decode cX7_can 122 = .ok (.goto (-50), 3) := by decide +kernel
theorem dX7_can_125 : decode cX7_can 125 = .ok (.iconst 0, 1) := by decide +kernel
theorem dX7_can_126 : decode cX7_can 126 = .ok (.ireturn, 1) := by decide +kernel
theorem dX7_least_0 : decode cX7_least 0 = .ok (.aload_n 0, 1) := by decide +kernel
theorem dX7_least_1 : decode cX7_least 1 = .ok (.getfield 11, 3) := by decide +kernel
theorem dX7_least_4 : decode cX7_least 4 = .ok (.iconst 0, 1) := by decide +kernel
theorem dX7_least_5 : decode cX7_least 5 = .ok (.iaload, 1) := by decide +kernel
theorem dX7_least_6 : decode cX7_least 6 = .ok (.ifCond .ne 5, 3) := by decide +kernel
theorem dX7_least_9 : decode cX7_least 9 = .ok (.iconst 0, 1) := by decide +kernel
theorem dX7_least_10 : decode cX7_least 10 = .ok (.ireturn, 1) := by decide +kernel
theorem dX7_least_11 : decode cX7_least 11 = .ok (.aload_n 0, 1) := by decide +kernel
theorem dX7_least_12 : decode cX7_least 12 = .ok (.getfield 11, 3) := by decide +kernel
theorem dX7_least_15 : decode cX7_least 15 = .ok (.aload_n 0, 1) := by decide +kernel
theorem dX7_least_16 : decode cX7_least 16 = .ok (.getfield 15, 3) := by decide +kernel
theorem dX7_least_19 : decode cX7_least 19 = .ok (.invokestatic 177, 3) := by decide +kernel
theorem dX7_least_22 : decode cX7_least 22 = .ok (.iconst 1, 1) := by decide +kernel
theorem dX7_least_23 : decode cX7_least 23 = .ok (.aload_n 0, 1) := by decide +kernel
theorem dX7_least_24 : decode cX7_least 24 = .ok (.invokevirtual 181, 3) := by decide +kernel
theorem dX7_least_27 : decode cX7_least 27 = .ok (.invokestatic 113, 3) := by decide +kernel
theorem dX7_least_30 : decode cX7_least 30 = .ok (.istore_n 1, 1) := by decide +kernel
theorem dX7_least_31 : decode cX7_least 31 = .ok (.iconst 0, 1) := by decide +kernel
theorem dX7_least_32 : decode cX7_least 32 = .ok (.istore_n 2, 1) := by decide +kernel
theorem dX7_least_33 : decode cX7_least 33 = .ok (.iconst 0, 1) := by decide +kernel
theorem dX7_least_34 : decode cX7_least 34 = .ok (.istore_n 3, 1) := by decide +kernel
theorem dX7_least_35 : decode cX7_least 35 = .ok (.iload_n 3, 1) := by decide +kernel
theorem dX7_least_36 : decode cX7_least 36 = .ok (.aload_n 0, 1) := by decide +kernel
theorem dX7_least_37 : decode cX7_least 37 = .ok (.getfield 11, 3) := by decide +kernel
theorem dX7_least_40 : decode cX7_least 40 = .ok (.iconst 0, 1) := by decide +kernel
theorem dX7_least_41 : decode cX7_least 41 = .ok (.iaload, 1) := by decide +kernel
theorem dX7_least_42 : decode cX7_least 42 = .ok (.if_icmp .ge 38, 3) := by decide +kernel
theorem dX7_least_45 : decode cX7_least 45 = .ok (.aload_n 0, 1) := by decide +kernel
theorem dX7_least_46 : decode cX7_least 46 = .ok (.iload_n 3, 1) := by decide +kernel
theorem dX7_least_47 : decode cX7_least 47 = .ok (.invokevirtual 72, 3) := by decide +kernel
theorem dX7_least_50 : decode cX7_least 50 = .ok (.ifCond .eq 18, 3) := by decide +kernel
theorem dX7_least_53 : decode cX7_least 53 = .ok (.iload_n 1, 1) := by decide +kernel
theorem dX7_least_54 : decode cX7_least 54 = .ok (.aload_n 0, 1) := by decide +kernel
theorem dX7_least_55 : decode cX7_least 55 = .ok (.iload_n 3, 1) := by decide +kernel
theorem dX7_least_56 : decode cX7_least 56 = .ok (.invokevirtual 75, 3) := by decide +kernel
theorem dX7_least_59 : decode cX7_least 59 = .ok (.iconst 1, 1) := by decide +kernel
theorem dX7_least_60 : decode cX7_least 60 = .ok (.iadd, 1) := by decide +kernel
theorem dX7_least_61 : decode cX7_least 61 = .ok (.invokestatic 113, 3) := by decide +kernel
theorem dX7_least_64 : decode cX7_least 64 = .ok (.istore_n 1, 1) := by decide +kernel
theorem dX7_least_65 : decode cX7_least 65 = .ok (.goto 9, 3) := by decide +kernel
theorem dX7_least_68 : decode cX7_least 68 = .ok (.aload_n 0, 1) := by decide +kernel
theorem dX7_least_69 : decode cX7_least 69 = .ok (.iload_n 3, 1) := by decide +kernel
theorem dX7_least_70 : decode cX7_least 70 = .ok (.iconst (-1), 1) := by decide +kernel
theorem dX7_least_71 : decode cX7_least 71 = .ok (.invokevirtual 78, 3) := by decide +kernel
theorem dX7_least_74 : decode cX7_least 74 = .ok (.iinc 3 1, 3) := by decide +kernel
theorem dX7_least_77 : decode cX7_least 77 = .ok (.goto (-42), 3) := by decide +kernel
theorem dX7_least_80 : decode cX7_least 80 = .ok (.aload_n 0, 1) := by decide +kernel
theorem dX7_least_81 : decode cX7_least 81 = .ok (.invokevirtual 159, 3) := by decide +kernel
theorem dX7_least_84 : decode cX7_least 84 = .ok (.ifCond .le 7, 3) := by decide +kernel
theorem dX7_least_87 : decode cX7_least 87 = .ok (.iconst 1, 1) := by decide +kernel
theorem dX7_least_88 : decode cX7_least 88 = .ok (.goto 4, 3) := by decide +kernel
theorem dX7_least_91 : decode cX7_least 91 = .ok (.iconst 0, 1) := by decide +kernel
theorem dX7_least_92 : decode cX7_least 92 = .ok (.istore_n 2, 1) := by decide +kernel
theorem dX7_least_93 : decode cX7_least 93 = .ok (.iload_n 1, 1) := by decide +kernel
theorem dX7_least_94 : decode cX7_least 94 = .ok (.istore_n 3, 1) := by decide +kernel
theorem dX7_least_95 : decode cX7_least 95 = .ok (.iload_n 2, 1) := by decide +kernel
theorem dX7_least_96 : decode cX7_least 96 = .ok (.ifCond .ne 23, 3) := by decide +kernel
theorem dX7_least_99 : decode cX7_least 99 = .ok (.iload_n 3, 1) := by decide +kernel
theorem dX7_least_100 : decode cX7_least 100 = .ok (.bipush 12, 2) := by decide +kernel
theorem dX7_least_102 : decode cX7_least 102 = .ok (.if_icmp .gt 17, 3) := by decide +kernel
theorem dX7_least_105 : decode cX7_least 105 = .ok (.aload_n 0, 1) := by decide +kernel
theorem dX7_least_106 : decode cX7_least 106 = .ok (.iload_n 3, 1) := by decide +kernel
theorem dX7_least_107 : decode cX7_least 107 = .ok (.invokevirtual 174, 3) := by decide +kernel
theorem dX7_least_110 : decode cX7_least 110 = .ok (.ifCond .ne 9, 3) := by decide +kernel
theorem dX7_least_113 : decode cX7_least 113 = .ok (.iinc 3 1, 3) := by decide +kernel
theorem dX7_least_116 : decode cX7_least 116 = .ok (.goto (-21), 3) := by decide +kernel
theorem dX7_least_119 : decode cX7_least 119 = .ok (.aload_n 0, 1) := by decide +kernel
theorem dX7_least_120 : decode cX7_least 120 = .ok (.getfield 15, 3) := by decide +kernel
theorem dX7_least_123 : decode cX7_least 123 = .ok (.aload_n 0, 1) := by decide +kernel
theorem dX7_least_124 : decode cX7_least 124 = .ok (.getfield 11, 3) := by decide +kernel
theorem dX7_least_127 : decode cX7_least 127 = .ok (.invokestatic 177, 3) := by decide +kernel
theorem dX7_least_130 : decode cX7_least 130 = .ok (.iload_n 2, 1) := by decide +kernel
theorem dX7_least_131 : decode cX7_least 131 = .ok (.ifCond .ne 9, 3) := by decide +kernel
theorem dX7_least_134 : decode cX7_least 134 = .ok (.iload_n 3, 1) := by decide +kernel
theorem dX7_least_135 : decode cX7_least 135 = .ok (.bipush 12, 2) := by decide +kernel
theorem dX7_least_137 : decode cX7_least 137 = .ok (.if_icmp .le 8, 3) := by decide +kernel
theorem dX7_least_140 : decode cX7_least 140 = .ok (.bipush (-5), 2) := by decide +kernel
theorem dX7_least_142 : decode cX7_least 142 = .ok (.goto 4, 3) := by decide +kernel
theorem dX7_least_145 : decode cX7_least 145 = .ok (.iload_n 3, 1) := by decide +kernel
theorem dX7_least_146 : decode cX7_least 146 = .ok (.ireturn, 1) := by decide +kernel
theorem dX7_unlike_0 : decode cX7_unlike 0 = .ok (.iconst 0, 1) := by decide +kernel
theorem dX7_unlike_1 : decode cX7_unlike 1 = .ok (.istore_n 1, 1) := by decide +kernel
theorem dX7_unlike_2 : decode cX7_unlike 2 = .ok (.iconst 0, 1) := by decide +kernel
theorem dX7_unlike_3 : decode cX7_unlike 3 = .ok (.istore_n 2, 1) := by decide +kernel
theorem dX7_unlike_4 : decode cX7_unlike 4 = .ok (.iload_n 2, 1) := by decide +kernel
theorem dX7_unlike_5 : decode cX7_unlike 5 = .ok (.aload_n 0, 1) := by decide +kernel
theorem dX7_unlike_6 : decode cX7_unlike 6 = .ok (.getfield 11, 3) := by decide +kernel
theorem dX7_unlike_9 : decode cX7_unlike 9 = .ok (.iconst 0, 1) := by decide +kernel
theorem dX7_unlike_10 : decode cX7_unlike 10 = .ok (.iaload, 1) := by decide +kernel
theorem dX7_unlike_11 : decode cX7_unlike 11 = .ok (.if_icmp .ge 31, 3) := by decide +kernel
theorem dX7_unlike_14 : decode cX7_unlike 14 = .ok (.iload_n 1, 1) := by decide +kernel
theorem dX7_unlike_15 : decode cX7_unlike 15 = .ok (.aload_n 0, 1) := by decide +kernel
theorem dX7_unlike_16 : decode cX7_unlike 16 = .ok (.iload_n 2, 1) := by decide +kernel
theorem dX7_unlike_17 : decode cX7_unlike 17 = .ok (.invokevirtual 75, 3) := by decide +kernel
theorem dX7_unlike_20 : decode cX7_unlike 20 = .ok (.ifCond .lt 13, 3) := by decide +kernel
theorem dX7_unlike_23 : decode cX7_unlike 23 = .ok (.iconst 1, 1) := by decide +kernel
theorem dX7_unlike_24 : decode cX7_unlike 24 = .ok (.aload_n 0, 1) := by decide +kernel
theorem dX7_unlike_25 : decode cX7_unlike 25 = .ok (.iload_n 2, 1) := by decide +kernel
theorem dX7_unlike_26 : decode cX7_unlike 26 = .ok (.invokevirtual 75, 3) := by decide +kernel
theorem dX7_unlike_29 : decode cX7_unlike 29 = .ok (.ishl, 1) := by decide +kernel
theorem dX7_unlike_30 : decode cX7_unlike 30 = .ok (.goto 4, 3) := by decide +kernel
theorem dX7_unlike_33 : decode cX7_unlike 33 = .ok (.iconst 0, 1) := by decide +kernel
theorem dX7_unlike_34 : decode cX7_unlike 34 = .ok (.ior, 1) := by decide +kernel
theorem dX7_unlike_35 : decode cX7_unlike 35 = .ok (.istore_n 1, 1) := by decide +kernel
theorem dX7_unlike_36 : decode cX7_unlike 36 = .ok (.iinc 2 1, 3) := by decide +kernel
theorem dX7_unlike_39 : decode cX7_unlike 39 = .ok (.goto (-35), 3) := by decide +kernel
theorem dX7_unlike_42 : decode cX7_unlike 42 = .ok (.iload_n 1, 1) := by decide +kernel
theorem dX7_unlike_43 : decode cX7_unlike 43 = .ok (.invokestatic 150, 3) := by decide +kernel
theorem dX7_unlike_46 : decode cX7_unlike 46 = .ok (.ireturn, 1) := by decide +kernel
theorem dX7_having_0 : decode cX7_having 0 = .ok (.iconst 0, 1) := by decide +kernel
theorem dX7_having_1 : decode cX7_having 1 = .ok (.istore_n 1, 1) := by decide +kernel
theorem dX7_having_2 : decode cX7_having 2 = .ok (.iconst 0, 1) := by decide +kernel
theorem dX7_having_3 : decode cX7_having 3 = .ok (.istore_n 2, 1) := by decide +kernel
theorem dX7_having_4 : decode cX7_having 4 = .ok (.iload_n 2, 1) := by decide +kernel
theorem dX7_having_5 : decode cX7_having 5 = .ok (.aload_n 0, 1) := by decide +kernel
theorem dX7_having_6 : decode cX7_having 6 = .ok (.getfield 11, 3) := by decide +kernel
theorem dX7_having_9 : decode cX7_having 9 = .ok (.iconst 0, 1) := by decide +kernel
theorem dX7_having_10 : decode cX7_having 10 = .ok (.iaload, 1) := by decide +kernel
theorem dX7_having_11 : decode cX7_having 11 = .ok (.if_icmp .ge 25, 3) := by decide +kernel
theorem dX7_having_14 : decode cX7_having 14 = .ok (.iload_n 1, 1) := by decide +kernel
theorem dX7_having_15 : decode cX7_having 15 = .ok (.aload_n 0, 1) := by decide +kernel
theorem dX7_having_16 : decode cX7_having 16 = .ok (.iload_n 2, 1) := by decide +kernel
theorem dX7_having_17 : decode cX7_having 17 = .ok (.invokevirtual 75, 3) := by decide +kernel
theorem dX7_having_20 : decode cX7_having 20 = .ok (.ifCond .lt 7, 3) := by decide +kernel
theorem dX7_having_23 : decode cX7_having 23 = .ok (.iconst 1, 1) := by decide +kernel
theorem dX7_having_24 : decode cX7_having 24 = .ok (.goto 4, 3) := by decide +kernel
theorem dX7_having_27 : decode cX7_having 27 = .ok (.iconst 0, 1) := by decide +kernel
theorem dX7_having_28 : decode cX7_having 28 = .ok (.iadd, 1) := by decide +kernel
theorem dX7_having_29 : decode cX7_having 29 = .ok (.istore_n 1, 1) := by decide +kernel
theorem dX7_having_30 : decode cX7_having 30 = .ok (.iinc 2 1, 3) := by decide +kernel
theorem dX7_having_33 : decode cX7_having 33 = .ok (.goto (-29), 3) := by decide +kernel
theorem dX7_having_36 : decode cX7_having 36 = .ok (.iload_n 1, 1) := by decide +kernel
theorem dX7_having_37 : decode cX7_having 37 = .ok (.ireturn, 1) := by decide +kernel
theorem dX7_fixedSet_0 : decode cX7_fixedSet 0 = .ok (.iconst 0, 1) := by decide +kernel
theorem dX7_fixedSet_1 : decode cX7_fixedSet 1 = .ok (.istore_n 1, 1) := by decide +kernel
theorem dX7_fixedSet_2 : decode cX7_fixedSet 2 = .ok (.iconst 0, 1) := by decide +kernel
theorem dX7_fixedSet_3 : decode cX7_fixedSet 3 = .ok (.istore_n 2, 1) := by decide +kernel
theorem dX7_fixedSet_4 : decode cX7_fixedSet 4 = .ok (.iload_n 2, 1) := by decide +kernel
theorem dX7_fixedSet_5 : decode cX7_fixedSet 5 = .ok (.aload_n 0, 1) := by decide +kernel
theorem dX7_fixedSet_6 : decode cX7_fixedSet 6 = .ok (.getfield 11, 3) := by decide +kernel
theorem dX7_fixedSet_9 : decode cX7_fixedSet 9 = .ok (.iconst 0, 1) := by decide +kernel
theorem dX7_fixedSet_10 : decode cX7_fixedSet 10 = .ok (.iaload, 1) := by decide +kernel
theorem dX7_fixedSet_11 : decode cX7_fixedSet 11 = .ok (.if_icmp .ge 27, 3) := by decide +kernel
theorem dX7_fixedSet_14 : decode cX7_fixedSet 14 = .ok (.iload_n 1, 1) := by decide +kernel
theorem dX7_fixedSet_15 : decode cX7_fixedSet 15 = .ok (.aload_n 0, 1) := by decide +kernel
theorem dX7_fixedSet_16 : decode cX7_fixedSet 16 = .ok (.iload_n 2, 1) := by decide +kernel
theorem dX7_fixedSet_17 : decode cX7_fixedSet 17 = .ok (.invokevirtual 72, 3) := by decide +kernel
theorem dX7_fixedSet_20 : decode cX7_fixedSet 20 = .ok (.ifCond .eq 9, 3) := by decide +kernel
theorem dX7_fixedSet_23 : decode cX7_fixedSet 23 = .ok (.iconst 1, 1) := by decide +kernel
theorem dX7_fixedSet_24 : decode cX7_fixedSet 24 = .ok (.iload_n 2, 1) := by decide +kernel
theorem dX7_fixedSet_25 : decode cX7_fixedSet 25 = .ok (.ishl, 1) := by decide +kernel
theorem dX7_fixedSet_26 : decode cX7_fixedSet 26 = .ok (.goto 4, 3) := by decide +kernel
theorem dX7_fixedSet_29 : decode cX7_fixedSet 29 = .ok (.iconst 0, 1) := by decide +kernel
theorem dX7_fixedSet_30 : decode cX7_fixedSet 30 = .ok (.ior, 1) := by decide +kernel
theorem dX7_fixedSet_31 : decode cX7_fixedSet 31 = .ok (.istore_n 1, 1) := by decide +kernel
theorem dX7_fixedSet_32 : decode cX7_fixedSet 32 = .ok (.iinc 2 1, 3) := by decide +kernel
theorem dX7_fixedSet_35 : decode cX7_fixedSet 35 = .ok (.goto (-31), 3) := by decide +kernel
theorem dX7_fixedSet_38 : decode cX7_fixedSet 38 = .ok (.iload_n 1, 1) := by decide +kernel
theorem dX7_fixedSet_39 : decode cX7_fixedSet 39 = .ok (.ireturn, 1) := by decide +kernel
theorem dX7_told_0 : decode cX7_told 0 = .ok (.iload_n 1, 1) := by decide +kernel
theorem dX7_told_1 : decode cX7_told 1 = .ok (.tableswitch 110 0 8 #[51, 58, 63, 68, 73, 78, 95, 100, 105], 51) := by decide +kernel
theorem dX7_told_52 : decode cX7_told 52 = .ok (.aload_n 0, 1) := by decide +kernel
theorem dX7_told_53 : decode cX7_told 53 = .ok (.getfield 11, 3) := by decide +kernel
theorem dX7_told_56 : decode cX7_told 56 = .ok (.iconst 0, 1) := by decide +kernel
theorem dX7_told_57 : decode cX7_told 57 = .ok (.iaload, 1) := by decide +kernel
theorem dX7_told_58 : decode cX7_told 58 = .ok (.ireturn, 1) := by decide +kernel
theorem dX7_told_59 : decode cX7_told 59 = .ok (.aload_n 0, 1) := by decide +kernel
theorem dX7_told_60 : decode cX7_told 60 = .ok (.invokevirtual 184, 3) := by decide +kernel
theorem dX7_told_63 : decode cX7_told 63 = .ok (.ireturn, 1) := by decide +kernel
theorem dX7_told_64 : decode cX7_told 64 = .ok (.aload_n 0, 1) := by decide +kernel
theorem dX7_told_65 : decode cX7_told 65 = .ok (.invokevirtual 159, 3) := by decide +kernel
theorem dX7_told_68 : decode cX7_told 68 = .ok (.ireturn, 1) := by decide +kernel
theorem dX7_told_69 : decode cX7_told 69 = .ok (.aload_n 0, 1) := by decide +kernel
theorem dX7_told_70 : decode cX7_told 70 = .ok (.invokevirtual 181, 3) := by decide +kernel
theorem dX7_told_73 : decode cX7_told 73 = .ok (.ireturn, 1) := by decide +kernel
theorem dX7_told_74 : decode cX7_told 74 = .ok (.aload_n 0, 1) := by decide +kernel
theorem dX7_told_75 : decode cX7_told 75 = .ok (.invokevirtual 187, 3) := by decide +kernel
theorem dX7_told_78 : decode cX7_told 78 = .ok (.ireturn, 1) := by decide +kernel
theorem dX7_told_79 : decode cX7_told 79 = .ok (.aload_n 0, 1) := by decide +kernel
theorem dX7_told_80 : decode cX7_told 80 = .ok (.invokevirtual 187, 3) := by decide +kernel
theorem dX7_told_83 : decode cX7_told 83 = .ok (.aload_n 0, 1) := by decide +kernel
theorem dX7_told_84 : decode cX7_told 84 = .ok (.invokevirtual 181, 3) := by decide +kernel
theorem dX7_told_87 : decode cX7_told 87 = .ok (.if_icmp .ne 7, 3) := by decide +kernel
theorem dX7_told_90 : decode cX7_told 90 = .ok (.iconst 1, 1) := by decide +kernel
theorem dX7_told_91 : decode cX7_told 91 = .ok (.goto 4, 3) := by decide +kernel
theorem dX7_told_94 : decode cX7_told 94 = .ok (.iconst 0, 1) := by decide +kernel
theorem dX7_told_95 : decode cX7_told 95 = .ok (.ireturn, 1) := by decide +kernel
theorem dX7_told_96 : decode cX7_told 96 = .ok (.aload_n 0, 1) := by decide +kernel
theorem dX7_told_97 : decode cX7_told 97 = .ok (.invokevirtual 190, 3) := by decide +kernel
theorem dX7_told_100 : decode cX7_told 100 = .ok (.ireturn, 1) := by decide +kernel
theorem dX7_told_101 : decode cX7_told 101 = .ok (.aload_n 0, 1) := by decide +kernel
theorem dX7_told_102 : decode cX7_told 102 = .ok (.invokevirtual 193, 3) := by decide +kernel
theorem dX7_told_105 : decode cX7_told 105 = .ok (.ireturn, 1) := by decide +kernel
theorem dX7_told_106 : decode cX7_told 106 = .ok (.aload_n 0, 1) := by decide +kernel
theorem dX7_told_107 : decode cX7_told 107 = .ok (.invokevirtual 196, 3) := by decide +kernel
theorem dX7_told_110 : decode cX7_told 110 = .ok (.ireturn, 1) := by decide +kernel
theorem dX7_told_111 : decode cX7_told 111 = .ok (.iconst (-1), 1) := by decide +kernel
theorem dX7_told_112 : decode cX7_told 112 = .ok (.ireturn, 1) := by decide +kernel
theorem dX7_sorted_0 : decode cX7_sorted 0 = .ok (.iload_n 1, 1) := by decide +kernel
theorem dX7_sorted_1 : decode cX7_sorted 1 = .ok (.ifCond .ge 5, 3) := by decide +kernel
theorem dX7_sorted_4 : decode cX7_sorted 4 = .ok (.iconst (-1), 1) := by decide +kernel
theorem dX7_sorted_5 : decode cX7_sorted 5 = .ok (.ireturn, 1) := by decide +kernel
theorem dX7_sorted_6 : decode cX7_sorted 6 = .ok (.iconst 0, 1) := by decide +kernel
theorem dX7_sorted_7 : decode cX7_sorted 7 = .ok (.istore_n 2, 1) := by decide +kernel
theorem dX7_sorted_8 : decode cX7_sorted 8 = .ok (.iconst 0, 1) := by decide +kernel
theorem dX7_sorted_9 : decode cX7_sorted 9 = .ok (.istore_n 3, 1) := by decide +kernel
theorem dX7_sorted_10 : decode cX7_sorted 10 = .ok (.iload_n 3, 1) := by decide +kernel
theorem dX7_sorted_11 : decode cX7_sorted 11 = .ok (.bipush 20, 2) := by decide +kernel
theorem dX7_sorted_13 : decode cX7_sorted 13 = .ok (.if_icmp .ge 50, 3) := by decide +kernel
theorem dX7_sorted_16 : decode cX7_sorted 16 = .ok (.iconst 0, 1) := by decide +kernel
theorem dX7_sorted_17 : decode cX7_sorted 17 = .ok (.istore 4, 2) := by decide +kernel
theorem dX7_sorted_19 : decode cX7_sorted 19 = .ok (.iload 4, 2) := by decide +kernel
theorem dX7_sorted_21 : decode cX7_sorted 21 = .ok (.aload_n 0, 1) := by decide +kernel
theorem dX7_sorted_22 : decode cX7_sorted 22 = .ok (.getfield 11, 3) := by decide +kernel
theorem dX7_sorted_25 : decode cX7_sorted 25 = .ok (.iconst 0, 1) := by decide +kernel
theorem dX7_sorted_26 : decode cX7_sorted 26 = .ok (.iaload, 1) := by decide +kernel
theorem dX7_sorted_27 : decode cX7_sorted 27 = .ok (.if_icmp .ge 30, 3) := by decide +kernel
theorem dX7_sorted_30 : decode cX7_sorted 30 = .ok (.aload_n 0, 1) := by decide +kernel
theorem dX7_sorted_31 : decode cX7_sorted 31 = .ok (.iload 4, 2) := by decide +kernel
theorem dX7_sorted_33 : decode cX7_sorted 33 = .ok (.invokevirtual 75, 3) := by decide +kernel
theorem dX7_sorted_36 : decode cX7_sorted 36 = .ok (.iload_n 3, 1) := by decide +kernel
theorem dX7_sorted_37 : decode cX7_sorted 37 = .ok (.if_icmp .ne 14, 3) := by decide +kernel
theorem dX7_sorted_40 : decode cX7_sorted 40 = .ok (.iload_n 2, 1) := by decide +kernel
theorem dX7_sorted_41 : decode cX7_sorted 41 = .ok (.iload_n 1, 1) := by decide +kernel
theorem dX7_sorted_42 : decode cX7_sorted 42 = .ok (.if_icmp .ne 6, 3) := by decide +kernel
theorem dX7_sorted_45 : decode cX7_sorted 45 = .ok (.iload 4, 2) := by decide +kernel
theorem dX7_sorted_47 : decode cX7_sorted 47 = .ok (.ireturn, 1) := by decide +kernel
theorem dX7_sorted_48 : decode cX7_sorted 48 = .ok (.iinc 2 1, 3) := by decide +kernel
theorem dX7_sorted_51 : decode cX7_sorted 51 = .ok (.iinc 4 1, 3) := by decide +kernel
theorem dX7_sorted_54 : decode cX7_sorted 54 = .ok (.goto (-35), 3) := by decide +kernel
theorem dX7_sorted_57 : decode cX7_sorted 57 = .ok (.iinc 3 1, 3) := by decide +kernel
theorem dX7_sorted_60 : decode cX7_sorted 60 = .ok (.goto (-50), 3) := by decide +kernel
theorem dX7_sorted_63 : decode cX7_sorted 63 = .ok (.bipush (-5), 2) := by decide +kernel
theorem dX7_sorted_65 : decode cX7_sorted 65 = .ok (.ireturn, 1) := by decide +kernel
theorem dX7_see_0 : decode cX7_see 0 = .ok (.iload_n 1, 1) := by decide +kernel
theorem dX7_see_1 : decode cX7_see 1 = .ok (.iconst (-1), 1) := by decide +kernel
theorem dX7_see_2 : decode cX7_see 2 = .ok (.if_icmp .ne 12, 3) := by decide +kernel
theorem dX7_see_5 : decode cX7_see 5 = .ok (.aload_n 0, 1) := by decide +kernel
theorem dX7_see_6 : decode cX7_see 6 = .ok (.getfield 11, 3) := by decide +kernel
theorem dX7_see_9 : decode cX7_see 9 = .ok (.iconst 1, 1) := by decide +kernel
theorem dX7_see_10 : decode cX7_see 10 = .ok (.iconst 0, 1) := by decide +kernel
theorem dX7_see_11 : decode cX7_see 11 = .ok (.iastore, 1) := by decide +kernel
theorem dX7_see_12 : decode cX7_see 12 = .ok (.iconst 0, 1) := by decide +kernel
theorem dX7_see_13 : decode cX7_see 13 = .ok (.ireturn, 1) := by decide +kernel
theorem dX7_see_14 : decode cX7_see 14 = .ok (.aload_n 0, 1) := by decide +kernel
theorem dX7_see_15 : decode cX7_see 15 = .ok (.iload_n 1, 1) := by decide +kernel
theorem dX7_see_16 : decode cX7_see 16 = .ok (.invokevirtual 64, 3) := by decide +kernel
theorem dX7_see_19 : decode cX7_see 19 = .ok (.ifCond .ne 5, 3) := by decide +kernel
theorem dX7_see_22 : decode cX7_see 22 = .ok (.iconst (-1), 1) := by decide +kernel
theorem dX7_see_23 : decode cX7_see 23 = .ok (.ireturn, 1) := by decide +kernel
theorem dX7_see_24 : decode cX7_see 24 = .ok (.iload_n 2, 1) := by decide +kernel
theorem dX7_see_25 : decode cX7_see 25 = .ok (.i2l, 1) := by decide +kernel
theorem dX7_see_26 : decode cX7_see 26 = .ok (.lconst 0, 1) := by decide +kernel
theorem dX7_see_27 : decode cX7_see 27 = .ok (.ldc2_w 70, 3) := by decide +kernel
theorem dX7_see_30 : decode cX7_see 30 = .ok (.invokestatic 37, 3) := by decide +kernel
theorem dX7_see_33 : decode cX7_see 33 = .ok (.ifCond .ne 6, 3) := by decide +kernel
theorem dX7_see_36 : decode cX7_see 36 = .ok (.bipush (-2), 2) := by decide +kernel
theorem dX7_see_38 : decode cX7_see 38 = .ok (.ireturn, 1) := by decide +kernel
theorem dX7_see_39 : decode cX7_see 39 = .ok (.aload_n 0, 1) := by decide +kernel
theorem dX7_see_40 : decode cX7_see 40 = .ok (.getfield 11, 3) := by decide +kernel
theorem dX7_see_43 : decode cX7_see 43 = .ok (.iconst 1, 1) := by decide +kernel
theorem dX7_see_44 : decode cX7_see 44 = .ok (.iaload, 1) := by decide +kernel
theorem dX7_see_45 : decode cX7_see 45 = .ok (.istore_n 3, 1) := by decide +kernel
theorem dX7_see_46 : decode cX7_see 46 = .ok (.iload_n 3, 1) := by decide +kernel
theorem dX7_see_47 : decode cX7_see 47 = .ok (.iconst 5, 1) := by decide +kernel
theorem dX7_see_48 : decode cX7_see 48 = .ok (.if_icmp .ne 6, 3) := by decide +kernel
theorem dX7_see_51 : decode cX7_see 51 = .ok (.bipush (-4), 2) := by decide +kernel
theorem dX7_see_53 : decode cX7_see 53 = .ok (.ireturn, 1) := by decide +kernel
theorem dX7_see_54 : decode cX7_see 54 = .ok (.aload_n 0, 1) := by decide +kernel
theorem dX7_see_55 : decode cX7_see 55 = .ok (.getfield 11, 3) := by decide +kernel
theorem dX7_see_58 : decode cX7_see 58 = .ok (.bipush 42, 2) := by decide +kernel
theorem dX7_see_60 : decode cX7_see 60 = .ok (.iconst 2, 1) := by decide +kernel
theorem dX7_see_61 : decode cX7_see 61 = .ok (.iload_n 3, 1) := by decide +kernel
theorem dX7_see_62 : decode cX7_see 62 = .ok (.imul, 1) := by decide +kernel
theorem dX7_see_63 : decode cX7_see 63 = .ok (.iadd, 1) := by decide +kernel
theorem dX7_see_64 : decode cX7_see 64 = .ok (.iload_n 1, 1) := by decide +kernel
theorem dX7_see_65 : decode cX7_see 65 = .ok (.iastore, 1) := by decide +kernel
theorem dX7_see_66 : decode cX7_see 66 = .ok (.aload_n 0, 1) := by decide +kernel
theorem dX7_see_67 : decode cX7_see 67 = .ok (.getfield 11, 3) := by decide +kernel
theorem dX7_see_70 : decode cX7_see 70 = .ok (.bipush 42, 2) := by decide +kernel
theorem dX7_see_72 : decode cX7_see 72 = .ok (.iconst 2, 1) := by decide +kernel
theorem dX7_see_73 : decode cX7_see 73 = .ok (.iload_n 3, 1) := by decide +kernel
theorem dX7_see_74 : decode cX7_see 74 = .ok (.imul, 1) := by decide +kernel
theorem dX7_see_75 : decode cX7_see 75 = .ok (.iadd, 1) := by decide +kernel
theorem dX7_see_76 : decode cX7_see 76 = .ok (.iconst 1, 1) := by decide +kernel
theorem dX7_see_77 : decode cX7_see 77 = .ok (.iadd, 1) := by decide +kernel
theorem dX7_see_78 : decode cX7_see 78 = .ok (.iload_n 2, 1) := by decide +kernel
theorem dX7_see_79 : decode cX7_see 79 = .ok (.iastore, 1) := by decide +kernel
theorem dX7_see_80 : decode cX7_see 80 = .ok (.aload_n 0, 1) := by decide +kernel
theorem dX7_see_81 : decode cX7_see 81 = .ok (.getfield 11, 3) := by decide +kernel
theorem dX7_see_84 : decode cX7_see 84 = .ok (.iconst 1, 1) := by decide +kernel
theorem dX7_see_85 : decode cX7_see 85 = .ok (.iload_n 3, 1) := by decide +kernel
theorem dX7_see_86 : decode cX7_see 86 = .ok (.iconst 1, 1) := by decide +kernel
theorem dX7_see_87 : decode cX7_see 87 = .ok (.iadd, 1) := by decide +kernel
theorem dX7_see_88 : decode cX7_see 88 = .ok (.iastore, 1) := by decide +kernel
