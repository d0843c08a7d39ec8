theorem dX0_init_0 : decode cX0_init 0 = .ok (.aload_n 0, 1) := by decide +kernel
theorem dX0_init_1 : decode cX0_init 1 = .ok (.invokespecial 3, 3) := by decide +kernel
theorem dX0_init_4 : decode cX0_init 4 = .ok (.aload_n 0, 1) := by decide +kernel
theorem dX0_init_5 : decode cX0_init 5 = .ok (.bipush 8, 2) := by decide +kernel
theorem dX0_init_7 : decode cX0_init 7 = .ok (.newarray .int, 2) := by decide +kernel
theorem dX0_init_9 : decode cX0_init 9 = .ok (.putfield 9, 3) := by decide +kernel
theorem dX0_init_12 : decode cX0_init 12 = .ok (.aload_n 0, 1) := by decide +kernel
theorem dX0_init_13 : decode cX0_init 13 = .ok (.bipush 8, 2) := by decide +kernel
theorem dX0_init_15 : decode cX0_init 15 = .ok (.newarray .int, 2) := by decide +kernel
theorem dX0_init_17 : decode cX0_init 17 = .ok (.putfield 15, 3) := by decide +kernel
theorem dX0_init_20 : decode cX0_init 20 = .ok (.aload_n 0, 1) := by decide +kernel
theorem dX0_init_21 : decode cX0_init 21 = .ok (.bipush 8, 2) := by decide +kernel
theorem dX0_init_23 : decode cX0_init 23 = .ok (.newarray .int, 2) := by decide +kernel
theorem dX0_init_25 : decode cX0_init 25 = .ok (.putfield 18, 3) := by decide +kernel
theorem dX0_init_28 : decode cX0_init 28 = .ok (.aload_n 0, 1) := by decide +kernel
theorem dX0_init_29 : decode cX0_init 29 = .ok (.iconst 3, 1) := by decide +kernel
theorem dX0_init_30 : decode cX0_init 30 = .ok (.newarray .int, 2) := by decide +kernel
theorem dX0_init_32 : decode cX0_init 32 = .ok (.putfield 21, 3) := by decide +kernel
theorem dX0_init_35 : decode cX0_init 35 = .ok (.aload_n 0, 1) := by decide +kernel
theorem dX0_init_36 : decode cX0_init 36 = .ok (.iconst 3, 1) := by decide +kernel
theorem dX0_init_37 : decode cX0_init 37 = .ok (.newarray .int, 2) := by decide +kernel
theorem dX0_init_39 : decode cX0_init 39 = .ok (.putfield 24, 3) := by decide +kernel
theorem dX0_init_42 : decode cX0_init 42 = .ok (.aload_n 0, 1) := by decide +kernel
theorem dX0_init_43 : decode cX0_init 43 = .ok (.bipush 64, 2) := by decide +kernel
theorem dX0_init_45 : decode cX0_init 45 = .ok (.newarray .int, 2) := by decide +kernel
theorem dX0_init_47 : decode cX0_init 47 = .ok (.putfield 27, 3) := by decide +kernel
theorem dX0_init_50 : decode cX0_init 50 = .ok (.aload_n 0, 1) := by decide +kernel
theorem dX0_init_51 : decode cX0_init 51 = .ok (.bipush 8, 2) := by decide +kernel
theorem dX0_init_53 : decode cX0_init 53 = .ok (.newarray .int, 2) := by decide +kernel
theorem dX0_init_55 : decode cX0_init 55 = .ok (.putfield 30, 3) := by decide +kernel
theorem dX0_init_58 : decode cX0_init 58 = .ok (.aload_n 0, 1) := by decide +kernel
theorem dX0_init_59 : decode cX0_init 59 = .ok (.bipush 8, 2) := by decide +kernel
theorem dX0_init_61 : decode cX0_init 61 = .ok (.newarray .int, 2) := by decide +kernel
theorem dX0_init_63 : decode cX0_init 63 = .ok (.putfield 33, 3) := by decide +kernel
theorem dX0_init_66 : decode cX0_init 66 = .ok (.aload_n 0, 1) := by decide +kernel
theorem dX0_init_67 : decode cX0_init 67 = .ok (.iconst 0, 1) := by decide +kernel
theorem dX0_init_68 : decode cX0_init 68 = .ok (.putfield 36, 3) := by decide +kernel
theorem dX0_init_71 : decode cX0_init 71 = .ok (.aload_n 0, 1) := by decide +kernel
theorem dX0_init_72 : decode cX0_init 72 = .ok (.iconst 0, 1) := by decide +kernel
theorem dX0_init_73 : decode cX0_init 73 = .ok (.putfield 40, 3) := by decide +kernel
theorem dX0_init_76 : decode cX0_init 76 = .ok (.iconst 0, 1) := by decide +kernel
theorem dX0_init_77 : decode cX0_init 77 = .ok (.istore_n 1, 1) := by decide +kernel
theorem dX0_init_78 : decode cX0_init 78 = .ok (.iload_n 1, 1) := by decide +kernel
theorem dX0_init_79 : decode cX0_init 79 = .ok (.iconst 3, 1) := by decide +kernel
theorem dX0_init_80 : decode cX0_init 80 = .ok (.if_icmp .ge 16, 3) := by decide +kernel
theorem dX0_init_83 : decode cX0_init 83 = .ok (.aload_n 0, 1) := by decide +kernel
theorem dX0_init_84 : decode cX0_init 84 = .ok (.getfield 24, 3) := by decide +kernel
theorem dX0_init_87 : decode cX0_init 87 = .ok (.iload_n 1, 1) := by decide +kernel
theorem dX0_init_88 : decode cX0_init 88 = .ok (.iconst 1, 1) := by decide +kernel
theorem dX0_init_89 : decode cX0_init 89 = .ok (.iastore, 1) := by decide +kernel
theorem dX0_init_90 : decode cX0_init 90 = .ok (.iinc 1 1, 3) := by decide +kernel
theorem dX0_init_93 : decode cX0_init 93 = .ok (.goto (-15), 3) := by decide +kernel
theorem dX0_init_96 : decode cX0_init 96 = .ok (.return_, 1) := by decide +kernel
theorem dX0_copyFrom_0 : decode cX0_copyFrom 0 = .ok (.aload_n 1, 1) := by decide +kernel
theorem dX0_copyFrom_1 : decode cX0_copyFrom 1 = .ok (.getfield 9, 3) := by decide +kernel
theorem dX0_copyFrom_4 : decode cX0_copyFrom 4 = .ok (.iconst 0, 1) := by decide +kernel
theorem dX0_copyFrom_5 : decode cX0_copyFrom 5 = .ok (.aload_n 0, 1) := by decide +kernel
theorem dX0_copyFrom_6 : decode cX0_copyFrom 6 = .ok (.getfield 9, 3) := by decide +kernel
theorem dX0_copyFrom_9 : decode cX0_copyFrom 9 = .ok (.iconst 0, 1) := by decide +kernel
theorem dX0_copyFrom_10 : decode cX0_copyFrom 10 = .ok (.bipush 8, 2) := by decide +kernel
theorem dX0_copyFrom_12 : decode cX0_copyFrom 12 = .ok (.invokestatic 43, 3) := by decide +kernel
theorem dX0_copyFrom_15 : decode cX0_copyFrom 15 = .ok (.aload_n 1, 1) := by decide +kernel
theorem dX0_copyFrom_16 : decode cX0_copyFrom 16 = .ok (.getfield 15, 3) := by decide +kernel
theorem dX0_copyFrom_19 : decode cX0_copyFrom 19 = .ok (.iconst 0, 1) := by decide +kernel
theorem dX0_copyFrom_20 : decode cX0_copyFrom 20 = .ok (.aload_n 0, 1) := by decide +kernel
theorem dX0_copyFrom_21 : decode cX0_copyFrom 21 = .ok (.getfield 15, 3) := by decide +kernel
theorem dX0_copyFrom_24 : decode cX0_copyFrom 24 = .ok (.iconst 0, 1) := by decide +kernel
theorem dX0_copyFrom_25 : decode cX0_copyFrom 25 = .ok (.bipush 8, 2) := by decide +kernel
theorem dX0_copyFrom_27 : decode cX0_copyFrom 27 = .ok (.invokestatic 43, 3) := by decide +kernel
theorem dX0_copyFrom_30 : decode cX0_copyFrom 30 = .ok (.aload_n 1, 1) := by decide +kernel
theorem dX0_copyFrom_31 : decode cX0_copyFrom 31 = .ok (.getfield 18, 3) := by decide +kernel
theorem dX0_copyFrom_34 : decode cX0_copyFrom 34 = .ok (.iconst 0, 1) := by decide +kernel
theorem dX0_copyFrom_35 : decode cX0_copyFrom 35 = .ok (.aload_n 0, 1) := by decide +kernel
theorem dX0_copyFrom_36 : decode cX0_copyFrom 36 = .ok (.getfield 18, 3) := by decide +kernel
theorem dX0_copyFrom_39 : decode cX0_copyFrom 39 = .ok (.iconst 0, 1) := by decide +kernel
theorem dX0_copyFrom_40 : decode cX0_copyFrom 40 = .ok (.bipush 8, 2) := by decide +kernel
theorem dX0_copyFrom_42 : decode cX0_copyFrom 42 = .ok (.invokestatic 43, 3) := by decide +kernel
theorem dX0_copyFrom_45 : decode cX0_copyFrom 45 = .ok (.aload_n 1, 1) := by decide +kernel
theorem dX0_copyFrom_46 : decode cX0_copyFrom 46 = .ok (.getfield 21, 3) := by decide +kernel
theorem dX0_copyFrom_49 : decode cX0_copyFrom 49 = .ok (.iconst 0, 1) := by decide +kernel
theorem dX0_copyFrom_50 : decode cX0_copyFrom 50 = .ok (.aload_n 0, 1) := by decide +kernel
theorem dX0_copyFrom_51 : decode cX0_copyFrom 51 = .ok (.getfield 21, 3) := by decide +kernel
theorem dX0_copyFrom_54 : decode cX0_copyFrom 54 = .ok (.iconst 0, 1) := by decide +kernel
theorem dX0_copyFrom_55 : decode cX0_copyFrom 55 = .ok (.iconst 3, 1) := by decide +kernel
theorem dX0_copyFrom_56 : decode cX0_copyFrom 56 = .ok (.invokestatic 43, 3) := by decide +kernel
theorem dX0_copyFrom_59 : decode cX0_copyFrom 59 = .ok (.aload_n 1, 1) := by decide +kernel
theorem dX0_copyFrom_60 : decode cX0_copyFrom 60 = .ok (.getfield 24, 3) := by decide +kernel
theorem dX0_copyFrom_63 : decode cX0_copyFrom 63 = .ok (.iconst 0, 1) := by decide +kernel
theorem dX0_copyFrom_64 : decode cX0_copyFrom 64 = .ok (.aload_n 0, 1) := by decide +kernel
theorem dX0_copyFrom_65 : decode cX0_copyFrom 65 = .ok (.getfield 24, 3) := by decide +kernel
theorem dX0_copyFrom_68 : decode cX0_copyFrom 68 = .ok (.iconst 0, 1) := by decide +kernel
theorem dX0_copyFrom_69 : decode cX0_copyFrom 69 = .ok (.iconst 3, 1) := by decide +kernel
theorem dX0_copyFrom_70 : decode cX0_copyFrom 70 = .ok (.invokestatic 43, 3) := by decide +kernel
theorem dX0_copyFrom_73 : decode cX0_copyFrom 73 = .ok (.aload_n 1, 1) := by decide +kernel
theorem dX0_copyFrom_74 : decode cX0_copyFrom 74 = .ok (.getfield 27, 3) := by decide +kernel
theorem dX0_copyFrom_77 : decode cX0_copyFrom 77 = .ok (.iconst 0, 1) := by decide +kernel
theorem dX0_copyFrom_78 : decode cX0_copyFrom 78 = .ok (.aload_n 0, 1) := by decide +kernel
theorem dX0_copyFrom_79 : decode cX0_copyFrom 79 = .ok (.getfield 27, 3) := by decide +kernel
theorem dX0_copyFrom_82 : decode cX0_copyFrom 82 = .ok (.iconst 0, 1) := by decide +kernel
theorem dX0_copyFrom_83 : decode cX0_copyFrom 83 = .ok (.bipush 64, 2) := by decide +kernel
theorem dX0_copyFrom_85 : decode cX0_copyFrom 85 = .ok (.invokestatic 43, 3) := by decide +kernel
theorem dX0_copyFrom_88 : decode cX0_copyFrom 88 = .ok (.aload_n 1, 1) := by decide +kernel
theorem dX0_copyFrom_89 : decode cX0_copyFrom 89 = .ok (.getfield 30, 3) := by decide +kernel
theorem dX0_copyFrom_92 : decode cX0_copyFrom 92 = .ok (.iconst 0, 1) := by decide +kernel
theorem dX0_copyFrom_93 : decode cX0_copyFrom 93 = .ok (.aload_n 0, 1) := by decide +kernel
theorem dX0_copyFrom_94 : decode cX0_copyFrom 94 = .ok (.getfield 30, 3) := by decide +kernel
theorem dX0_copyFrom_97 : decode cX0_copyFrom 97 = .ok (.iconst 0, 1) := by decide +kernel
theorem dX0_copyFrom_98 : decode cX0_copyFrom 98 = .ok (.bipush 8, 2) := by decide +kernel
theorem dX0_copyFrom_100 : decode cX0_copyFrom 100 = .ok (.invokestatic 43, 3) := by decide +kernel
theorem dX0_copyFrom_103 : decode cX0_copyFrom 103 = .ok (.aload_n 0, 1) := by decide +kernel
theorem dX0_copyFrom_104 : decode cX0_copyFrom 104 = .ok (.aload_n 1, 1) := by decide +kernel
theorem dX0_copyFrom_105 : decode cX0_copyFrom 105 = .ok (.getfield 36, 3) := by decide +kernel
theorem dX0_copyFrom_108 : decode cX0_copyFrom 108 = .ok (.putfield 36, 3) := by decide +kernel
theorem dX0_copyFrom_111 : decode cX0_copyFrom 111 = .ok (.aload_n 0, 1) := by decide +kernel
theorem dX0_copyFrom_112 : decode cX0_copyFrom 112 = .ok (.aload_n 1, 1) := by decide +kernel
theorem dX0_copyFrom_113 : decode cX0_copyFrom 113 = .ok (.getfield 40, 3) := by decide +kernel
theorem dX0_copyFrom_116 : decode cX0_copyFrom 116 = .ok (.putfield 40, 3) := by decide +kernel
theorem dX0_copyFrom_119 : decode cX0_copyFrom 119 = .ok (.return_, 1) := by decide +kernel
theorem dX0_size_0 : decode cX0_size 0 = .ok (.aload_n 0, 1) := by decide +kernel
theorem dX0_size_1 : decode cX0_size 1 = .ok (.getfield 40, 3) := by decide +kernel
theorem dX0_size_4 : decode cX0_size 4 = .ok (.ireturn, 1) := by decide +kernel
theorem dX0_has_0 : decode cX0_has 0 = .ok (.iload_n 1, 1) := by decide +kernel
theorem dX0_has_1 : decode cX0_has 1 = .ok (.ifCond .lt 15, 3) := by decide +kernel
theorem dX0_has_4 : decode cX0_has 4 = .ok (.iload_n 1, 1) := by decide +kernel
theorem dX0_has_5 : decode cX0_has 5 = .ok (.aload_n 0, 1) := by decide +kernel
theorem dX0_has_6 : decode cX0_has 6 = .ok (.getfield 40, 3) := by decide +kernel
theorem dX0_has_9 : decode cX0_has 9 = .ok (.if_icmp .ge 7, 3) := by decide +kernel
theorem dX0_has_12 : decode cX0_has 12 = .ok (.iconst 1, 1) := by decide +kernel
theorem dX0_has_13 : decode cX0_has 13 = .ok (.goto 4, 3) := by decide +kernel
theorem dX0_has_16 : decode cX0_has 16 = .ok (.iconst 0, 1) := by decide +kernel
theorem dX0_has_17 : decode cX0_has 17 = .ok (.ireturn, 1) := by decide +kernel
theorem dX0_x_0 : decode cX0_x 0 = .ok (.aload_n 0, 1) := by decide +kernel
theorem dX0_x_1 : decode cX0_x 1 = .ok (.iload_n 1, 1) := by decide +kernel
theorem dX0_x_2 : decode cX0_x 2 = .ok (.invokevirtual 49, 3) := by decide +kernel
theorem dX0_x_5 : decode cX0_x 5 = .ok (.ifCond .eq 12, 3) := by decide +kernel
theorem dX0_x_8 : decode cX0_x 8 = .ok (.aload_n 0, 1) := by decide +kernel
theorem dX0_x_9 : decode cX0_x 9 = .ok (.getfield 9, 3) := by decide +kernel
theorem dX0_x_12 : decode cX0_x 12 = .ok (.iload_n 1, 1) := by decide +kernel
theorem dX0_x_13 : decode cX0_x 13 = .ok (.iaload, 1) := by decide +kernel
theorem dX0_x_14 : decode cX0_x 14 = .ok (.goto 4, 3) := by decide +kernel
theorem dX0_x_17 : decode cX0_x 17 = .ok (.iconst (-1), 1) := by decide +kernel
theorem dX0_x_18 : decode cX0_x 18 = .ok (.ireturn, 1) := by decide +kernel
theorem dX0_y_0 : decode cX0_y 0 = .ok (.aload_n 0, 1) := by decide +kernel
theorem dX0_y_1 : decode cX0_y 1 = .ok (.iload_n 1, 1) := by decide +kernel
theorem dX0_y_2 : decode cX0_y 2 = .ok (.invokevirtual 49, 3) := by decide +kernel
theorem dX0_y_5 : decode cX0_y 5 = .ok (.ifCond .eq 12, 3) := by decide +kernel
theorem dX0_y_8 : decode cX0_y 8 = .ok (.aload_n 0, 1) := by decide +kernel
theorem dX0_y_9 : decode cX0_y 9 = .ok (.getfield 15, 3) := by decide +kernel
theorem dX0_y_12 : decode cX0_y 12 = .ok (.iload_n 1, 1) := by decide +kernel
theorem dX0_y_13 : decode cX0_y 13 = .ok (.iaload, 1) := by decide +kernel
theorem dX0_y_14 : decode cX0_y 14 = .ok (.goto 4, 3) := by decide +kernel
theorem dX0_y_17 : decode cX0_y 17 = .ok (.iconst (-1), 1) := by decide +kernel
theorem dX0_y_18 : decode cX0_y 18 = .ok (.ireturn, 1) := by decide +kernel
theorem dX0_isFixed_0 : decode cX0_isFixed 0 = .ok (.aload_n 0, 1) := by decide +kernel
theorem dX0_isFixed_1 : decode cX0_isFixed 1 = .ok (.iload_n 1, 1) := by decide +kernel
theorem dX0_isFixed_2 : decode cX0_isFixed 2 = .ok (.invokevirtual 49, 3) := by decide +kernel
theorem dX0_isFixed_5 : decode cX0_isFixed 5 = .ok (.ifCond .eq 19, 3) := by decide +kernel
theorem dX0_isFixed_8 : decode cX0_isFixed 8 = .ok (.aload_n 0, 1) := by decide +kernel
theorem dX0_isFixed_9 : decode cX0_isFixed 9 = .ok (.getfield 36, 3) := by decide +kernel
theorem dX0_isFixed_12 : decode cX0_isFixed 12 = .ok (.iload_n 1, 1) := by decide +kernel
theorem dX0_isFixed_13 : decode cX0_isFixed 13 = .ok (.ishr, 1) := by decide +kernel
theorem dX0_isFixed_14 : decode cX0_isFixed 14 = .ok (.iconst 1, 1) := by decide +kernel
theorem dX0_isFixed_15 : decode cX0_isFixed 15 = .ok (.iand, 1) := by decide +kernel
theorem dX0_isFixed_16 : decode cX0_isFixed 16 = .ok (.iconst 1, 1) := by decide +kernel
theorem dX0_isFixed_17 : decode cX0_isFixed 17 = .ok (.if_icmp .ne 7, 3) := by decide +kernel
theorem dX0_isFixed_20 : decode cX0_isFixed 20 = .ok (.iconst 1, 1) := by decide +kernel
theorem dX0_isFixed_21 : decode cX0_isFixed 21 = .ok (.goto 4, 3) := by decide +kernel
theorem dX0_isFixed_24 : decode cX0_isFixed 24 = .ok (.iconst 0, 1) := by decide +kernel
theorem dX0_isFixed_25 : decode cX0_isFixed 25 = .ok (.ireturn, 1) := by decide +kernel
theorem dX0_channelOf_0 : decode cX0_channelOf 0 = .ok (.aload_n 0, 1) := by decide +kernel
theorem dX0_channelOf_1 : decode cX0_channelOf 1 = .ok (.iload_n 1, 1) := by decide +kernel
theorem dX0_channelOf_2 : decode cX0_channelOf 2 = .ok (.invokevirtual 49, 3) := by decide +kernel
theorem dX0_channelOf_5 : decode cX0_channelOf 5 = .ok (.ifCond .eq 12, 3) := by decide +kernel
theorem dX0_channelOf_8 : decode cX0_channelOf 8 = .ok (.aload_n 0, 1) := by decide +kernel
theorem dX0_channelOf_9 : decode cX0_channelOf 9 = .ok (.getfield 18, 3) := by decide +kernel
theorem dX0_channelOf_12 : decode cX0_channelOf 12 = .ok (.iload_n 1, 1) := by decide +kernel
theorem dX0_channelOf_13 : decode cX0_channelOf 13 = .ok (.iaload, 1) := by decide +kernel
theorem dX0_channelOf_14 : decode cX0_channelOf 14 = .ok (.goto 4, 3) := by decide +kernel
theorem dX0_channelOf_17 : decode cX0_channelOf 17 = .ok (.iconst (-1), 1) := by decide +kernel
theorem dX0_channelOf_18 : decode cX0_channelOf 18 = .ok (.ireturn, 1) := by decide +kernel
theorem dX0_channelOrAbsent_0 : decode cX0_channelOrAbsent 0 = .ok (.aload_n 0, 1) := by decide +kernel
theorem dX0_channelOrAbsent_1 : decode cX0_channelOrAbsent 1 = .ok (.iload_n 1, 1) := by decide +kernel
theorem dX0_channelOrAbsent_2 : decode cX0_channelOrAbsent 2 = .ok (.invokevirtual 53, 3) := by decide +kernel
theorem dX0_channelOrAbsent_5 : decode cX0_channelOrAbsent 5 = .ok (.istore_n 2, 1) := by decide +kernel
theorem dX0_channelOrAbsent_6 : decode cX0_channelOrAbsent 6 = .ok (.iload_n 2, 1) := by decide +kernel
theorem dX0_channelOrAbsent_7 : decode cX0_channelOrAbsent 7 = .ok (.iconst (-1), 1) := by decide +kernel
theorem dX0_channelOrAbsent_8 : decode cX0_channelOrAbsent 8 = .ok (.if_icmp .ne 8, 3) := by decide +kernel
theorem dX0_channelOrAbsent_11 : decode cX0_channelOrAbsent 11 = .ok (.bipush (-5), 2) := by decide +kernel
theorem dX0_channelOrAbsent_13 : decode cX0_channelOrAbsent 13 = .ok (.goto 4, 3) := by decide +kernel
theorem dX0_channelOrAbsent_16 : decode cX0_channelOrAbsent 16 = .ok (.iload_n 2, 1) := by decide +kernel
theorem dX0_channelOrAbsent_17 : decode cX0_channelOrAbsent 17 = .ok (.ireturn, 1) := by decide +kernel
theorem dX0_between_0 : decode cX0_between 0 = .ok (.iload_n 1, 1) := by decide +kernel
theorem dX0_between_1 : decode cX0_between 1 = .ok (.ifCond .lt 37, 3) := by decide +kernel
theorem dX0_between_4 : decode cX0_between 4 = .ok (.iload_n 1, 1) := by decide +kernel
theorem dX0_between_5 : decode cX0_between 5 = .ok (.aload_n 0, 1) := by decide +kernel
theorem dX0_between_6 : decode cX0_between 6 = .ok (.getfield 40, 3) := by decide +kernel
theorem dX0_between_9 : decode cX0_between 9 = .ok (.if_icmp .ge 29, 3) := by decide +kernel
theorem dX0_between_12 : decode cX0_between 12 = .ok (.iload_n 2, 1) := by decide +kernel
theorem dX0_between_13 : decode cX0_between 13 = .ok (.ifCond .lt 25, 3) := by decide +kernel
theorem dX0_between_16 : decode cX0_between 16 = .ok (.iload_n 2, 1) := by decide +kernel
theorem dX0_between_17 : decode cX0_between 17 = .ok (.aload_n 0, 1) := by decide +kernel
theorem dX0_between_18 : decode cX0_between 18 = .ok (.getfield 40, 3) := by decide +kernel
theorem dX0_between_21 : decode cX0_between 21 = .ok (.if_icmp .ge 17, 3) := by decide +kernel
theorem dX0_between_24 : decode cX0_between 24 = .ok (.aload_n 0, 1) := by decide +kernel
theorem dX0_between_25 : decode cX0_between 25 = .ok (.getfield 27, 3) := by decide +kernel
theorem dX0_between_28 : decode cX0_between 28 = .ok (.iload_n 1, 1) := by decide +kernel
theorem dX0_between_29 : decode cX0_between 29 = .ok (.bipush 8, 2) := by decide +kernel
theorem dX0_between_31 : decode cX0_between 31 = .ok (.imul, 1) := by decide +kernel
theorem dX0_between_32 : decode cX0_between 32 = .ok (.iload_n 2, 1) := by decide +kernel
theorem dX0_between_33 : decode cX0_between 33 = .ok (.iadd, 1) := by decide +kernel
theorem dX0_between_34 : decode cX0_between 34 = .ok (.iaload, 1) := by decide +kernel
theorem dX0_between_35 : decode cX0_between 35 = .ok (.goto 4, 3) := by decide +kernel
theorem dX0_between_38 : decode cX0_between 38 = .ok (.iconst 0, 1) := by decide +kernel
theorem dX0_between_39 : decode cX0_between 39 = .ok (.ireturn, 1) := by decide +kernel
theorem dX0_whoIsAt_0 : decode cX0_whoIsAt 0 = .ok (.iconst 0, 1) := by decide +kernel
theorem dX0_whoIsAt_1 : decode cX0_whoIsAt 1 = .ok (.istore_n 3, 1) := by decide +kernel
theorem dX0_whoIsAt_2 : decode cX0_whoIsAt 2 = .ok (.iload_n 3, 1) := by decide +kernel
theorem dX0_whoIsAt_3 : decode cX0_whoIsAt 3 = .ok (.aload_n 0, 1) := by decide +kernel
theorem dX0_whoIsAt_4 : decode cX0_whoIsAt 4 = .ok (.getfield 40, 3) := by decide +kernel
theorem dX0_whoIsAt_7 : decode cX0_whoIsAt 7 = .ok (.if_icmp .ge 31, 3) := by decide +kernel
theorem dX0_whoIsAt_10 : decode cX0_whoIsAt 10 = .ok (.aload_n 0, 1) := by decide +kernel
theorem dX0_whoIsAt_11 : decode cX0_whoIsAt 11 = .ok (.getfield 9, 3) := by decide +kernel
theorem dX0_whoIsAt_14 : decode cX0_whoIsAt 14 = .ok (.iload_n 3, 1) := by decide +kernel
theorem dX0_whoIsAt_15 : decode cX0_whoIsAt 15 = .ok (.iaload, 1) := by decide +kernel
theorem dX0_whoIsAt_16 : decode cX0_whoIsAt 16 = .ok (.iload_n 1, 1) := by decide +kernel
theorem dX0_whoIsAt_17 : decode cX0_whoIsAt 17 = .ok (.if_icmp .ne 15, 3) := by decide +kernel
theorem dX0_whoIsAt_20 : decode cX0_whoIsAt 20 = .ok (.aload_n 0, 1) := by decide +kernel
theorem dX0_whoIsAt_21 : decode cX0_whoIsAt 21 = .ok (.getfield 15, 3) := by decide +kernel
theorem dX0_whoIsAt_24 : decode cX0_whoIsAt 24 = .ok (.iload_n 3, 1) := by decide +kernel
theorem dX0_whoIsAt_25 : decode cX0_whoIsAt 25 = .ok (.iaload, 1) := by decide +kernel
theorem dX0_whoIsAt_26 : decode cX0_whoIsAt 26 = .ok (.iload_n 2, 1) := by decide +kernel
theorem dX0_whoIsAt_27 : decode cX0_whoIsAt 27 = .ok (.if_icmp .ne 5, 3) := by decide +kernel
theorem dX0_whoIsAt_30 : decode cX0_whoIsAt 30 = .ok (.iload_n 3, 1) := by decide +kernel
theorem dX0_whoIsAt_31 : decode cX0_whoIsAt 31 = .ok (.ireturn, 1) := by decide +kernel
theorem dX0_whoIsAt_32 : decode cX0_whoIsAt 32 = .ok (.iinc 3 1, 3) := by decide +kernel
theorem dX0_whoIsAt_35 : decode cX0_whoIsAt 35 = .ok (.goto (-33), 3) := by decide +kernel
theorem dX0_whoIsAt_38 : decode cX0_whoIsAt 38 = .ok (.iconst (-1), 1) := by decide +kernel
theorem dX0_whoIsAt_39 : decode cX0_whoIsAt 39 = .ok (.ireturn, 1) := by decide +kernel
theorem dX0_settle_0 : decode cX0_settle 0 = .ok (.aload_n 0, 1) := by decide +kernel
theorem dX0_settle_1 : decode cX0_settle 1 = .ok (.iload_n 1, 1) := by decide +kernel
theorem dX0_settle_2 : decode cX0_settle 2 = .ok (.iload_n 2, 1) := by decide +kernel
theorem dX0_settle_3 : decode cX0_settle 3 = .ok (.invokevirtual 57, 3) := by decide +kernel
theorem dX0_settle_6 : decode cX0_settle 6 = .ok (.ifCond .lt 6, 3) := by decide +kernel
theorem dX0_settle_9 : decode cX0_settle 9 = .ok (.bipush (-3), 2) := by decide +kernel
theorem dX0_settle_11 : decode cX0_settle 11 = .ok (.ireturn, 1) := by decide +kernel
theorem dX0_settle_12 : decode cX0_settle 12 = .ok (.aload_n 0, 1) := by decide +kernel
theorem dX0_settle_13 : decode cX0_settle 13 = .ok (.getfield 40, 3) := by decide +kernel
theorem dX0_settle_16 : decode cX0_settle 16 = .ok (.bipush 8, 2) := by decide +kernel
theorem dX0_settle_18 : decode cX0_settle 18 = .ok (.if_icmp .lt 6, 3) := by decide +kernel
theorem dX0_settle_21 : decode cX0_settle 21 = .ok (.bipush (-4), 2) := by decide +kernel
theorem dX0_settle_23 : decode cX0_settle 23 = .ok (.ireturn, 1) := by decide +kernel
theorem dX0_settle_24 : decode cX0_settle 24 = .ok (.aload_n 0, 1) := by decide +kernel
theorem dX0_settle_25 : decode cX0_settle 25 = .ok (.getfield 40, 3) := by decide +kernel
theorem dX0_settle_28 : decode cX0_settle 28 = .ok (.istore_n 3, 1) := by decide +kernel
theorem dX0_settle_29 : decode cX0_settle 29 = .ok (.aload_n 0, 1) := by decide +kernel
theorem dX0_settle_30 : decode cX0_settle 30 = .ok (.getfield 9, 3) := by decide +kernel
theorem dX0_settle_33 : decode cX0_settle 33 = .ok (.iload_n 3, 1) := by decide +kernel
theorem dX0_settle_34 : decode cX0_settle 34 = .ok (.iload_n 1, 1) := by decide +kernel
theorem dX0_settle_35 : decode cX0_settle 35 = .ok (.iastore, 1) := by decide +kernel
theorem dX0_settle_36 : decode cX0_settle 36 = .ok (.aload_n 0, 1) := by decide +kernel
theorem dX0_settle_37 : decode cX0_settle 37 = .ok (.getfield 15, 3) := by decide +kernel
theorem dX0_settle_40 : decode cX0_settle 40 = .ok (.iload_n 3, 1) := by decide +kernel
theorem dX0_settle_41 : decode cX0_settle 41 = .ok (.iload_n 2, 1) := by decide +kernel
theorem dX0_settle_42 : decode cX0_settle 42 = .ok (.iastore, 1) := by decide +kernel
theorem dX0_settle_43 : decode cX0_settle 43 = .ok (.aload_n 0, 1) := by decide +kernel
theorem dX0_settle_44 : decode cX0_settle 44 = .ok (.getfield 18, 3) := by decide +kernel
theorem dX0_settle_47 : decode cX0_settle 47 = .ok (.iload_n 3, 1) := by decide +kernel
theorem dX0_settle_48 : decode cX0_settle 48 = .ok (.iconst (-1), 1) := by decide +kernel
theorem dX0_settle_49 : decode cX0_settle 49 = .ok (.iastore, 1) := by decide +kernel
theorem dX0_settle_50 : decode cX0_settle 50 = .ok (.aload_n 0, 1) := by decide +kernel
theorem dX0_settle_51 : decode cX0_settle 51 = .ok (.dup, 1) := by decide +kernel
theorem dX0_settle_52 : decode cX0_settle 52 = .ok (.getfield 36, 3) := by decide +kernel
theorem dX0_settle_55 : decode cX0_settle 55 = .ok (.iconst 1, 1) := by decide +kernel
theorem dX0_settle_56 : decode cX0_settle 56 = .ok (.iload_n 3, 1) := by decide +kernel
theorem dX0_settle_57 : decode cX0_settle 57 = .ok (.ishl, 1) := by decide +kernel
theorem dX0_settle_58 : decode cX0_settle 58 = .ok (.iconst (-1), 1) := by decide +kernel
theorem dX0_settle_59 : decode cX0_settle 59 = .ok (.ixor, 1) := by decide +kernel
theorem dX0_settle_60 : decode cX0_settle 60 = .ok (.iand, 1) := by decide +kernel
theorem dX0_settle_61 : decode cX0_settle 61 = .ok (.putfield 36, 3) := by decide +kernel
theorem dX0_settle_64 : decode cX0_settle 64 = .ok (.aload_n 0, 1) := by decide +kernel
theorem dX0_settle_65 : decode cX0_settle 65 = .ok (.dup, 1) := by decide +kernel
theorem dX0_settle_66 : decode cX0_settle 66 = .ok (.getfield 40, 3) := by decide +kernel
theorem dX0_settle_69 : decode cX0_settle 69 = .ok (.iconst 1, 1) := by decide +kernel
theorem dX0_settle_70 : decode cX0_settle 70 = .ok (.iadd, 1) := by decide +kernel
theorem dX0_settle_71 : decode cX0_settle 71 = .ok (.putfield 40, 3) := by decide +kernel
theorem dX0_settle_74 : decode cX0_settle 74 = .ok (.aload_n 0, 1) := by decide +kernel
theorem dX0_settle_75 : decode cX0_settle 75 = .ok (.invokevirtual 61, 3) := by decide +kernel
theorem dX0_settle_78 : decode cX0_settle 78 = .ok (.pop, 1) := by decide +kernel
theorem dX0_settle_79 : decode cX0_settle 79 = .ok (.iload_n 3, 1) := by decide +kernel
theorem dX0_settle_80 : decode cX0_settle 80 = .ok (.ireturn, 1) := by decide +kernel
theorem dX0_carry_0 : decode cX0_carry 0 = .ok (.aload_n 0, 1) := by decide +kernel
theorem dX0_carry_1 : decode cX0_carry 1 = .ok (.iload_n 1, 1) := by decide +kernel
theorem dX0_carry_2 : decode cX0_carry 2 = .ok (.invokevirtual 49, 3) := by decide +kernel
theorem dX0_carry_5 : decode cX0_carry 5 = .ok (.ifCond .ne 5, 3) := by decide +kernel
theorem dX0_carry_8 : decode cX0_carry 8 = .ok (.iconst (-1), 1) := by decide +kernel
theorem dX0_carry_9 : decode cX0_carry 9 = .ok (.ireturn, 1) := by decide +kernel
theorem dX0_carry_10 : decode cX0_carry 10 = .ok (.iload_n 2, 1) := by decide +kernel
theorem dX0_carry_11 : decode cX0_carry 11 = .ok (.aload_n 0, 1) := by decide +kernel
theorem dX0_carry_12 : decode cX0_carry 12 = .ok (.getfield 9, 3) := by decide +kernel
theorem dX0_carry_15 : decode cX0_carry 15 = .ok (.iload_n 1, 1) := by decide +kernel
theorem dX0_carry_16 : decode cX0_carry 16 = .ok (.iaload, 1) := by decide +kernel
theorem dX0_carry_17 : decode cX0_carry 17 = .ok (.isub, 1) := by decide +kernel
theorem dX0_carry_18 : decode cX0_carry 18 = .ok (.istore 4, 2) := by decide +kernel
theorem dX0_carry_20 : decode cX0_carry 20 = .ok (.iload_n 3, 1) := by decide +kernel
theorem dX0_carry_21 : decode cX0_carry 21 = .ok (.aload_n 0, 1) := by decide +kernel
theorem dX0_carry_22 : decode cX0_carry 22 = .ok (.getfield 15, 3) := by decide +kernel
theorem dX0_carry_25 : decode cX0_carry 25 = .ok (.iload_n 1, 1) := by decide +kernel
theorem dX0_carry_26 : decode cX0_carry 26 = .ok (.iaload, 1) := by decide +kernel
theorem dX0_carry_27 : decode cX0_carry 27 = .ok (.isub, 1) := by decide +kernel
theorem dX0_carry_28 : decode cX0_carry 28 = .ok (.istore 5, 2) := by decide +kernel
theorem dX0_carry_30 : decode cX0_carry 30 = .ok (.aload_n 0, 1) := by decide +kernel
theorem dX0_carry_31 : decode cX0_carry 31 = .ok (.getfield 9, 3) := by decide +kernel
theorem dX0_carry_34 : decode cX0_carry 34 = .ok (.iload_n 1, 1) := by decide +kernel
theorem dX0_carry_35 : decode cX0_carry 35 = .ok (.iload_n 2, 1) := by decide +kernel
theorem dX0_carry_36 : decode cX0_carry 36 = .ok (.iastore, 1) := by decide +kernel
theorem dX0_carry_37 : decode cX0_carry 37 = .ok (.aload_n 0, 1) := by decide +kernel
theorem dX0_carry_38 : decode cX0_carry 38 = .ok (.getfield 15, 3) := by decide +kernel
theorem dX0_carry_41 : decode cX0_carry 41 = .ok (.iload_n 1, 1) := by decide +kernel
theorem dX0_carry_42 : decode cX0_carry 42 = .ok (.iload_n 3, 1) := by decide +kernel
theorem dX0_carry_43 : decode cX0_carry 43 = .ok (.iastore, 1) := by decide +kernel
theorem dX0_carry_44 : decode cX0_carry 44 = .ok (.aload_n 0, 1) := by decide +kernel
theorem dX0_carry_45 : decode cX0_carry 45 = .ok (.invokevirtual 61, 3) := by decide +kernel
theorem dX0_carry_48 : decode cX0_carry 48 = .ok (.pop, 1) := by decide +kernel
theorem dX0_carry_49 : decode cX0_carry 49 = .ok (.iload 4, 2) := by decide +kernel
theorem dX0_carry_51 : decode cX0_carry 51 = .ok (.iload 4, 2) := by decide +kernel
theorem dX0_carry_53 : decode cX0_carry 53 = .ok (.imul, 1) := by decide +kernel
theorem dX0_carry_54 : decode cX0_carry 54 = .ok (.iload 5, 2) := by decide +kernel
theorem dX0_carry_56 : decode cX0_carry 56 = .ok (.iload 5, 2) := by decide +kernel
theorem dX0_carry_58 : decode cX0_carry 58 = .ok (.imul, 1) := by decide +kernel
theorem dX0_carry_59 : decode cX0_carry 59 = .ok (.iadd, 1) := by decide +kernel
theorem dX0_carry_60 : decode cX0_carry 60 = .ok (.ireturn, 1) := by decide +kernel
theorem dX0_change_0 : decode cX0_change 0 = .ok (.iload_n 1, 1) := by decide +kernel
theorem dX0_change_1 : decode cX0_change 1 = .ok (.invokestatic 65, 3) := by decide +kernel
theorem dX0_change_4 : decode cX0_change 4 = .ok (.ifCond .ne 5, 3) := by decide +kernel
theorem dX0_change_7 : decode cX0_change 7 = .ok (.iconst (-1), 1) := by decide +kernel
theorem dX0_change_8 : decode cX0_change 8 = .ok (.ireturn, 1) := by decide +kernel
theorem dX0_change_9 : decode cX0_change 9 = .ok (.bipush 100, 2) := by decide +kernel
theorem dX0_change_11 : decode cX0_change 11 = .ok (.aload_n 0, 1) := by decide +kernel
theorem dX0_change_12 : decode cX0_change 12 = .ok (.getfield 21, 3) := by decide +kernel
theorem dX0_change_15 : decode cX0_change 15 = .ok (.iload_n 1, 1) := by decide +kernel
theorem dX0_change_16 : decode cX0_change 16 = .ok (.iaload, 1) := by decide +kernel
theorem dX0_change_17 : decode cX0_change 17 = .ok (.imul, 1) := by decide +kernel
theorem dX0_change_18 : decode cX0_change 18 = .ok (.aload_n 0, 1) := by decide +kernel
theorem dX0_change_19 : decode cX0_change 19 = .ok (.getfield 24, 3) := by decide +kernel
theorem dX0_change_22 : decode cX0_change 22 = .ok (.iload_n 1, 1) := by decide +kernel
theorem dX0_change_23 : decode cX0_change 23 = .ok (.iaload, 1) := by decide +kernel
theorem dX0_change_24 : decode cX0_change 24 = .ok (.iadd, 1) := by decide +kernel
theorem dX0_change_25 : decode cX0_change 25 = .ok (.istore 4, 2) := by decide +kernel
theorem dX0_change_27 : decode cX0_change 27 = .ok (.aload_n 0, 1) := by decide +kernel
theorem dX0_change_28 : decode cX0_change 28 = .ok (.getfield 21, 3) := by decide +kernel
theorem dX0_change_31 : decode cX0_change 31 = .ok (.iload_n 1, 1) := by decide +kernel
theorem dX0_change_32 : decode cX0_change 32 = .ok (.iload_n 2, 1) := by decide +kernel
theorem dX0_change_33 : decode cX0_change 33 = .ok (.iastore, 1) := by decide +kernel
theorem dX0_change_34 : decode cX0_change 34 = .ok (.aload_n 0, 1) := by decide +kernel
theorem dX0_change_35 : decode cX0_change 35 = .ok (.getfield 24, 3) := by decide +kernel
theorem dX0_change_38 : decode cX0_change 38 = .ok (.iload_n 1, 1) := by decide +kernel
theorem dX0_change_39 : decode cX0_change 39 = .ok (.iload_n 3, 1) := by decide +kernel
theorem dX0_change_40 : decode cX0_change 40 = .ok (.iastore, 1) := by decide +kernel
theorem dX0_change_41 : decode cX0_change 41 = .ok (.aload_n 0, 1) := by decide +kernel
theorem dX0_change_42 : decode cX0_change 42 = .ok (.invokevirtual 61, 3) := by decide +kernel
theorem dX0_change_45 : decode cX0_change 45 = .ok (.pop, 1) := by decide +kernel
theorem dX0_change_46 : decode cX0_change 46 = .ok (.iload 4, 2) := by decide +kernel
theorem dX0_change_48 : decode cX0_change 48 = .ok (.ireturn, 1) := by decide +kernel
theorem dX0_changeNear_0 : decode cX0_changeNear 0 = .ok (.iload_n 1, 1) := by decide +kernel
theorem dX0_changeNear_1 : decode cX0_changeNear 1 = .ok (.invokestatic 65, 3) := by decide +kernel
theorem dX0_changeNear_4 : decode cX0_changeNear 4 = .ok (.ifCond .ne 5, 3) := by decide +kernel
theorem dX0_changeNear_7 : decode cX0_changeNear 7 = .ok (.iconst 0, 1) := by decide +kernel
theorem dX0_changeNear_8 : decode cX0_changeNear 8 = .ok (.ireturn, 1) := by decide +kernel
theorem dX0_changeNear_9 : decode cX0_changeNear 9 = .ok (.aload_n 0, 1) := by decide +kernel
theorem dX0_changeNear_10 : decode cX0_changeNear 10 = .ok (.getfield 21, 3) := by decide +kernel
theorem dX0_changeNear_13 : decode cX0_changeNear 13 = .ok (.iload_n 1, 1) := by decide +kernel
theorem dX0_changeNear_14 : decode cX0_changeNear 14 = .ok (.iload_n 2, 1) := by decide +kernel
theorem dX0_changeNear_15 : decode cX0_changeNear 15 = .ok (.iastore, 1) := by decide +kernel
theorem dX0_changeNear_16 : decode cX0_changeNear 16 = .ok (.aload_n 0, 1) := by decide +kernel
theorem dX0_changeNear_17 : decode cX0_changeNear 17 = .ok (.invokevirtual 61, 3) := by decide +kernel
theorem dX0_changeNear_20 : decode cX0_changeNear 20 = .ok (.ireturn, 1) := by decide +kernel
theorem dX0_tune_0 : decode cX0_tune 0 = .ok (.aload_n 0, 1) := by decide +kernel
theorem dX0_tune_1 : decode cX0_tune 1 = .ok (.iload_n 1, 1) := by decide +kernel
theorem dX0_tune_2 : decode cX0_tune 2 = .ok (.invokevirtual 49, 3) := by decide +kernel
theorem dX0_tune_5 : decode cX0_tune 5 = .ok (.ifCond .eq 36, 3) := by decide +kernel
theorem dX0_tune_8 : decode cX0_tune 8 = .ok (.aload_n 0, 1) := by decide +kernel
theorem dX0_tune_9 : decode cX0_tune 9 = .ok (.getfield 18, 3) := by decide +kernel
theorem dX0_tune_12 : decode cX0_tune 12 = .ok (.iload_n 1, 1) := by decide +kernel
theorem dX0_tune_13 : decode cX0_tune 13 = .ok (.iload_n 2, 1) := by decide +kernel
theorem dX0_tune_14 : decode cX0_tune 14 = .ok (.iastore, 1) := by decide +kernel
theorem dX0_tune_15 : decode cX0_tune 15 = .ok (.aload_n 0, 1) := by decide +kernel
theorem dX0_tune_16 : decode cX0_tune 16 = .ok (.dup, 1) := by decide +kernel
theorem dX0_tune_17 : decode cX0_tune 17 = .ok (.getfield 36, 3) := by decide +kernel
theorem dX0_tune_20 : decode cX0_tune 20 = .ok (.iload_n 2, 1) := by decide +kernel
theorem dX0_tune_21 : decode cX0_tune 21 = .ok (.iconst (-1), 1) := by decide +kernel
theorem dX0_tune_22 : decode cX0_tune 22 = .ok (.if_icmp .ne 11, 3) := by decide +kernel
theorem dX0_tune_25 : decode cX0_tune 25 = .ok (.iconst 1, 1) := by decide +kernel
theorem dX0_tune_26 : decode cX0_tune 26 = .ok (.iload_n 1, 1) := by decide +kernel
theorem dX0_tune_27 : decode cX0_tune 27 = .ok (.ishl, 1) := by decide +kernel
theorem dX0_tune_28 : decode cX0_tune 28 = .ok (.iconst (-1), 1) := by decide +kernel
theorem dX0_tune_29 : decode cX0_tune 29 = .ok (.ixor, 1) := by decide +kernel
theorem dX0_tune_30 : decode cX0_tune 30 = .ok (.goto 7, 3) := by decide +kernel
theorem dX0_tune_33 : decode cX0_tune 33 = .ok (.aload_n 0, 1) := by decide +kernel
theorem dX0_tune_34 : decode cX0_tune 34 = .ok (.getfield 36, 3) := by decide +kernel
theorem dX0_tune_37 : decode cX0_tune 37 = .ok (.iand, 1) := by decide +kernel
theorem dX0_tune_38 : decode cX0_tune 38 = .ok (.putfield 36, 3) := by decide +kernel
theorem dX0_tune_41 : decode cX0_tune 41 = .ok (.return_, 1) := by decide +kernel
theorem dX0_pin_0 : decode cX0_pin 0 = .ok (.aload_n 0, 1) := by decide +kernel
theorem dX0_pin_1 : decode cX0_pin 1 = .ok (.iload_n 1, 1) := by decide +kernel
theorem dX0_pin_2 : decode cX0_pin 2 = .ok (.invokevirtual 49, 3) := by decide +kernel
theorem dX0_pin_5 : decode cX0_pin 5 = .ok (.ifCond .eq 52, 3) := by decide +kernel
theorem dX0_pin_8 : decode cX0_pin 8 = .ok (.iload_n 2, 1) := by decide +kernel
theorem dX0_pin_9 : decode cX0_pin 9 = .ok (.ifCond .eq 17, 3) := by decide +kernel
theorem dX0_pin_12 : decode cX0_pin 12 = .ok (.aload_n 0, 1) := by decide +kernel
theorem dX0_pin_13 : decode cX0_pin 13 = .ok (.getfield 18, 3) := by decide +kernel
theorem dX0_pin_16 : decode cX0_pin 16 = .ok (.iload_n 1, 1) := by decide +kernel
theorem dX0_pin_17 : decode cX0_pin 17 = .ok (.iaload, 1) := by decide +kernel
theorem dX0_pin_18 : decode cX0_pin 18 = .ok (.iconst (-1), 1) := by decide +kernel
theorem dX0_pin_19 : decode cX0_pin 19 = .ok (.if_icmp .eq 7, 3) := by decide +kernel
theorem dX0_pin_22 : decode cX0_pin 22 = .ok (.iconst 1, 1) := by decide +kernel
theorem dX0_pin_23 : decode cX0_pin 23 = .ok (.goto 4, 3) := by decide +kernel
theorem dX0_pin_26 : decode cX0_pin 26 = .ok (.iconst 0, 1) := by decide +kernel
theorem dX0_pin_27 : decode cX0_pin 27 = .ok (.istore_n 3, 1) := by decide +kernel
theorem dX0_pin_28 : decode cX0_pin 28 = .ok (.aload_n 0, 1) := by decide +kernel
theorem dX0_pin_29 : decode cX0_pin 29 = .ok (.iload_n 3, 1) := by decide +kernel
theorem dX0_pin_30 : decode cX0_pin 30 = .ok (.ifCond .eq 14, 3) := by decide +kernel
theorem dX0_pin_33 : decode cX0_pin 33 = .ok (.aload_n 0, 1) := by decide +kernel
theorem dX0_pin_34 : decode cX0_pin 34 = .ok (.getfield 36, 3) := by decide +kernel
theorem dX0_pin_37 : decode cX0_pin 37 = .ok (.iconst 1, 1) := by decide +kernel
theorem dX0_pin_38 : decode cX0_pin 38 = .ok (.iload_n 1, 1) := by decide +kernel
theorem dX0_pin_39 : decode cX0_pin 39 = .ok (.ishl, 1) := by decide +kernel
theorem dX0_pin_40 : decode cX0_pin 40 = .ok (.ior, 1) := by decide +kernel
theorem dX0_pin_41 : decode cX0_pin 41 = .ok (.goto 13, 3) := by decide +kernel
theorem dX0_pin_44 : decode cX0_pin 44 = .ok (.aload_n 0, 1) := by decide +kernel
theorem dX0_pin_45 : decode cX0_pin 45 = .ok (.getfield 36, 3) := by decide +kernel
theorem dX0_pin_48 : decode cX0_pin 48 = .ok (.iconst 1, 1) := by decide +kernel
theorem dX0_pin_49 : decode cX0_pin 49 = .ok (.iload_n 1, 1) := by decide +kernel
theorem dX0_pin_50 : decode cX0_pin 50 = .ok (.ishl, 1) := by decide +kernel
theorem dX0_pin_51 : decode cX0_pin 51 = .ok (.iconst (-1), 1) := by decide +kernel
theorem dX0_pin_52 : decode cX0_pin 52 = .ok (.ixor, 1) := by decide +kernel
theorem dX0_pin_53 : decode cX0_pin 53 = .ok (.iand, 1) := by decide +kernel
theorem dX0_pin_54 : decode cX0_pin 54 = .ok (.putfield 36, 3) := by decide +kernel
theorem dX0_pin_57 : decode cX0_pin 57 = .ok (.return_, 1) := by decide +kernel
theorem dX0_measure_0 : decode cX0_measure 0 = .ok (.iconst 0, 1) := by decide +kernel
theorem dX0_measure_1 : decode cX0_measure 1 = .ok (.istore_n 1, 1) := by decide +kernel
theorem dX0_measure_2 : decode cX0_measure 2 = .ok (.iconst 0, 1) := by decide +kernel
theorem dX0_measure_3 : decode cX0_measure 3 = .ok (.istore_n 2, 1) := by decide +kernel
theorem dX0_measure_4 : decode cX0_measure 4 = .ok (.iload_n 2, 1) := by decide +kernel
theorem dX0_measure_5 : decode cX0_measure 5 = .ok (.aload_n 0, 1) := by decide +kernel
theorem dX0_measure_6 : decode cX0_measure 6 = .ok (.getfield 40, 3) := by decide +kernel
theorem dX0_measure_9 : decode cX0_measure 9 = .ok (.if_icmp .ge 125, 3) := by decide +kernel
theorem dX0_measure_12 : decode cX0_measure 12 = .ok (.aload_n 0, 1) := by decide +kernel
theorem dX0_measure_13 : decode cX0_measure 13 = .ok (.getfield 30, 3) := by decide +kernel
theorem dX0_measure_16 : decode cX0_measure 16 = .ok (.iload_n 2, 1) := by decide +kernel
theorem dX0_measure_17 : decode cX0_measure 17 = .ok (.iconst 0, 1) := by decide +kernel
theorem dX0_measure_18 : decode cX0_measure 18 = .ok (.iastore, 1) := by decide +kernel
theorem dX0_measure_19 : decode cX0_measure 19 = .ok (.iconst 0, 1) := by decide +kernel
theorem dX0_measure_20 : decode cX0_measure 20 = .ok (.istore_n 3, 1) := by decide +kernel
theorem dX0_measure_21 : decode cX0_measure 21 = .ok (.iload_n 3, 1) := by decide +kernel
theorem dX0_measure_22 : decode cX0_measure 22 = .ok (.iload_n 2, 1) := by decide +kernel
theorem dX0_measure_23 : decode cX0_measure 23 = .ok (.if_icmp .ge 105, 3) := by decide +kernel
theorem dX0_measure_26 : decode cX0_measure 26 = .ok (.aload_n 0, 1) := by decide +kernel
theorem dX0_measure_27 : decode cX0_measure 27 = .ok (.iload_n 2, 1) := by decide +kernel
theorem dX0_measure_28 : decode cX0_measure 28 = .ok (.iload_n 3, 1) := by decide +kernel
theorem dX0_measure_29 : decode cX0_measure 29 = .ok (.invokevirtual 68, 3) := by decide +kernel
theorem dX0_measure_32 : decode cX0_measure 32 = .ok (.istore 4, 2) := by decide +kernel
theorem dX0_measure_34 : decode cX0_measure 34 = .ok (.iload_n 1, 1) := by decide +kernel
theorem dX0_measure_35 : decode cX0_measure 35 = .ok (.iload 4, 2) := by decide +kernel
theorem dX0_measure_37 : decode cX0_measure 37 = .ok (.aload_n 0, 1) := by decide +kernel
theorem dX0_measure_38 : decode cX0_measure 38 = .ok (.getfield 27, 3) := by decide +kernel
theorem dX0_measure_41 : decode cX0_measure 41 = .ok (.iload_n 2, 1) := by decide +kernel
theorem dX0_measure_42 : decode cX0_measure 42 = .ok (.bipush 8, 2) := by decide +kernel
theorem dX0_measure_44 : decode cX0_measure 44 = .ok (.imul, 1) := by decide +kernel
theorem dX0_measure_45 : decode cX0_measure 45 = .ok (.iload_n 3, 1) := by decide +kernel
theorem dX0_measure_46 : decode cX0_measure 46 = .ok (.iadd, 1) := by decide +kernel
theorem dX0_measure_47 : decode cX0_measure 47 = .ok (.iaload, 1) := by decide +kernel
theorem dX0_measure_48 : decode cX0_measure 48 = .ok (.if_icmp .eq 7, 3) := by decide +kernel
theorem dX0_measure_51 : decode cX0_measure 51 = .ok (.iconst 1, 1) := by decide +kernel
theorem dX0_measure_52 : decode cX0_measure 52 = .ok (.goto 4, 3) := by decide +kernel
theorem dX0_measure_55 : decode cX0_measure 55 = .ok (.iconst 0, 1) := by decide +kernel
theorem dX0_measure_56 : decode cX0_measure 56 = .ok (.ior, 1) := by decide +kernel
theorem dX0_measure_57 : decode cX0_measure 57 = .ok (.istore_n 1, 1) := by decide +kernel
theorem dX0_measure_58 : decode cX0_measure 58 = .ok (.aload_n 0, 1) := by decide +kernel
theorem dX0_measure_59 : decode cX0_measure 59 = .ok (.getfield 27, 3) := by decide +kernel
theorem dX0_measure_62 : decode cX0_measure 62 = .ok (.iload_n 2, 1) := by decide +kernel
theorem dX0_measure_63 : decode cX0_measure 63 = .ok (.bipush 8, 2) := by decide +kernel
theorem dX0_measure_65 : decode cX0_measure 65 = .ok (.imul, 1) := by decide +kernel
theorem dX0_measure_66 : decode cX0_measure 66 = .ok (.iload_n 3, 1) := by decide +kernel
theorem dX0_measure_67 : decode cX0_measure 67 = .ok (.iadd, 1) := by decide +kernel
theorem dX0_measure_68 : decode cX0_measure 68 = .ok (.iload 4, 2) := by decide +kernel
theorem dX0_measure_70 : decode cX0_measure 70 = .ok (.iastore, 1) := by decide +kernel
theorem dX0_measure_71 : decode cX0_measure 71 = .ok (.aload_n 0, 1) := by decide +kernel
theorem dX0_measure_72 : decode cX0_measure 72 = .ok (.getfield 27, 3) := by decide +kernel
theorem dX0_measure_75 : decode cX0_measure 75 = .ok (.iload_n 3, 1) := by decide +kernel
theorem dX0_measure_76 : decode cX0_measure 76 = .ok (.bipush 8, 2) := by decide +kernel
theorem dX0_measure_78 : decode cX0_measure 78 = .ok (.imul, 1) := by decide +kernel
theorem dX0_measure_79 : decode cX0_measure 79 = .ok (.iload_n 2, 1) := by decide +kernel
theorem dX0_measure_80 : decode cX0_measure 80 = .ok (.iadd, 1) := by decide +kernel
theorem dX0_measure_81 : decode cX0_measure 81 = .ok (.iload 4, 2) := by decide +kernel
theorem dX0_measure_83 : decode cX0_measure 83 = .ok (.iastore, 1) := by decide +kernel
theorem dX0_measure_84 : decode cX0_measure 84 = .ok (.aload_n 0, 1) := by decide +kernel
theorem dX0_measure_85 : decode cX0_measure 85 = .ok (.getfield 30, 3) := by decide +kernel
theorem dX0_measure_88 : decode cX0_measure 88 = .ok (.iload_n 2, 1) := by decide +kernel
theorem dX0_measure_89 : decode cX0_measure 89 = .ok (.dup2, 1) := by decide +kernel
theorem dX0_measure_90 : decode cX0_measure 90 = .ok (.iaload, 1) := by decide +kernel
theorem dX0_measure_91 : decode cX0_measure 91 = .ok (.iload 4, 2) := by decide +kernel
theorem dX0_measure_93 : decode cX0_measure 93 = .ok (.ifCond .le 7, 3) := by decide +kernel
theorem dX0_measure_96 : decode cX0_measure 96 = .ok (.iconst 1, 1) := by decide +kernel
theorem dX0_measure_97 : decode cX0_measure 97 = .ok (.goto 4, 3) := by decide +kernel
theorem dX0_measure_100 : decode cX0_measure 100 = .ok (.iconst 0, 1) := by decide +kernel
theorem dX0_measure_101 : decode cX0_measure 101 = .ok (.iadd, 1) := by decide +kernel
theorem dX0_measure_102 : decode cX0_measure 102 = .ok (.iastore, 1) := by decide +kernel
theorem dX0_measure_103 : decode cX0_measure 103 = .ok (.aload_n 0, 1) := by decide +kernel
theorem dX0_measure_104 : decode cX0_measure 104 = .ok (.getfield 30, 3) := by decide +kernel
theorem dX0_measure_107 : decode cX0_measure 107 = .ok (.iload_n 3, 1) := by decide +kernel
theorem dX0_measure_108 : decode cX0_measure 108 = .ok (.dup2, 1) := by decide +kernel
theorem dX0_measure_109 : decode cX0_measure 109 = .ok (.iaload, 1) := by decide +kernel
theorem dX0_measure_110 : decode cX0_measure 110 = .ok (.iload 4, 2) := by decide +kernel
theorem dX0_measure_112 : decode cX0_measure 112 = .ok (.ifCond .le 7, 3) := by decide +kernel
theorem dX0_measure_115 : decode cX0_measure 115 = .ok (.iconst 1, 1) := by decide +kernel
theorem dX0_measure_116 : decode cX0_measure 116 = .ok (.goto 4, 3) := by decide +kernel
theorem dX0_measure_119 : decode cX0_measure 119 = .ok (.iconst 0, 1) := by decide +kernel
theorem dX0_measure_120 : decode cX0_measure 120 = .ok (.iadd, 1) := by decide +kernel
theorem dX0_measure_121 : decode cX0_measure 121 = .ok (.iastore, 1) := by decide +kernel
theorem dX0_measure_122 : decode cX0_measure 122 = .ok (.iinc 3 1, 3) := by decide +kernel
theorem dX0_measure_125 : decode cX0_measure 125 = .ok (.goto (-104), 3) := by decide +kernel
theorem dX0_measure_128 : decode cX0_measure 128 = .ok (.iinc 2 1, 3) := by decide +kernel
theorem dX0_measure_131 : decode cX0_measure 131 = .ok (.goto (-127), 3) := by decide +kernel
theorem dX0_measure_134 : decode cX0_measure 134 = .ok (.iload_n 1, 1) := by decide +kernel
theorem dX0_measure_135 : decode cX0_measure 135 = .ok (.ireturn, 1) := by decide +kernel
theorem dX0_gapByRules_0 : decode cX0_gapByRules 0 = .ok (.aload_n 0, 1) := by decide +kernel
theorem dX0_gapByRules_1 : decode cX0_gapByRules 1 = .ok (.getfield 9, 3) := by decide +kernel
theorem dX0_gapByRules_4 : decode cX0_gapByRules 4 = .ok (.iload_n 1, 1) := by decide +kernel
theorem dX0_gapByRules_5 : decode cX0_gapByRules 5 = .ok (.iaload, 1) := by decide +kernel
theorem dX0_gapByRules_6 : decode cX0_gapByRules 6 = .ok (.aload_n 0, 1) := by decide +kernel
theorem dX0_gapByRules_7 : decode cX0_gapByRules 7 = .ok (.getfield 9, 3) := by decide +kernel
theorem dX0_gapByRules_10 : decode cX0_gapByRules 10 = .ok (.iload_n 2, 1) := by decide +kernel
theorem dX0_gapByRules_11 : decode cX0_gapByRules 11 = .ok (.iaload, 1) := by decide +kernel
theorem dX0_gapByRules_12 : decode cX0_gapByRules 12 = .ok (.isub, 1) := by decide +kernel
theorem dX0_gapByRules_13 : decode cX0_gapByRules 13 = .ok (.istore_n 3, 1) := by decide +kernel
theorem dX0_gapByRules_14 : decode cX0_gapByRules 14 = .ok (.aload_n 0, 1) := by decide +kernel
theorem dX0_gapByRules_15 : decode cX0_gapByRules 15 = .ok (.getfield 15, 3) := by decide +kernel
theorem dX0_gapByRules_18 : decode cX0_gapByRules 18 = .ok (.iload_n 1, 1) := by decide +kernel
theorem dX0_gapByRules_19 : decode cX0_gapByRules 19 = .ok (.iaload, 1) := by decide +kernel
theorem dX0_gapByRules_20 : decode cX0_gapByRules 20 = .ok (.aload_n 0, 1) := by decide +kernel
theorem dX0_gapByRules_21 : decode cX0_gapByRules 21 = .ok (.getfield 15, 3) := by decide +kernel
theorem dX0_gapByRules_24 : decode cX0_gapByRules 24 = .ok (.iload_n 2, 1) := by decide +kernel
theorem dX0_gapByRules_25 : decode cX0_gapByRules 25 = .ok (.iaload, 1) := by decide +kernel
theorem dX0_gapByRules_26 : decode cX0_gapByRules 26 = .ok (.isub, 1) := by decide +kernel
theorem dX0_gapByRules_27 : decode cX0_gapByRules 27 = .ok (.istore 4, 2) := by decide +kernel
theorem dX0_gapByRules_29 : decode cX0_gapByRules 29 = .ok (.iload_n 3, 1) := by decide +kernel
theorem dX0_gapByRules_30 : decode cX0_gapByRules 30 = .ok (.iload_n 3, 1) := by decide +kernel
theorem dX0_gapByRules_31 : decode cX0_gapByRules 31 = .ok (.imul, 1) := by decide +kernel
theorem dX0_gapByRules_32 : decode cX0_gapByRules 32 = .ok (.iload 4, 2) := by decide +kernel
theorem dX0_gapByRules_34 : decode cX0_gapByRules 34 = .ok (.iload 4, 2) := by decide +kernel
theorem dX0_gapByRules_36 : decode cX0_gapByRules 36 = .ok (.imul, 1) := by decide +kernel
theorem dX0_gapByRules_37 : decode cX0_gapByRules 37 = .ok (.iadd, 1) := by decide +kernel
theorem dX0_gapByRules_38 : decode cX0_gapByRules 38 = .ok (.istore 5, 2) := by decide +kernel
theorem dX0_gapByRules_40 : decode cX0_gapByRules 40 = .ok (.iconst 0, 1) := by decide +kernel
theorem dX0_gapByRules_41 : decode cX0_gapByRules 41 = .ok (.istore 6, 2) := by decide +kernel
theorem dX0_gapByRules_43 : decode cX0_gapByRules 43 = .ok (.iconst 0, 1) := by decide +kernel
theorem dX0_gapByRules_44 : decode cX0_gapByRules 44 = .ok (.istore 7, 2) := by decide +kernel
theorem dX0_gapByRules_46 : decode cX0_gapByRules 46 = .ok (.iload 7, 2) := by decide +kernel
theorem dX0_gapByRules_48 : decode cX0_gapByRules 48 = .ok (.iconst 3, 1) := by decide +kernel
theorem dX0_gapByRules_49 : decode cX0_gapByRules 49 = .ok (.if_icmp .ge 50, 3) := by decide +kernel
theorem dX0_gapByRules_52 : decode cX0_gapByRules 52 = .ok (.iload 5, 2) := by decide +kernel
theorem dX0_gapByRules_54 : decode cX0_gapByRules 54 = .ok (.aload_n 0, 1) := by decide +kernel
theorem dX0_gapByRules_55 : decode cX0_gapByRules 55 = .ok (.getfield 21, 3) := by decide +kernel
theorem dX0_gapByRules_58 : decode cX0_gapByRules 58 = .ok (.iload 7, 2) := by decide +kernel
theorem dX0_gapByRules_60 : decode cX0_gapByRules 60 = .ok (.iaload, 1) := by decide +kernel
theorem dX0_gapByRules_61 : decode cX0_gapByRules 61 = .ok (.aload_n 0, 1) := by decide +kernel
theorem dX0_gapByRules_62 : decode cX0_gapByRules 62 = .ok (.getfield 21, 3) := by decide +kernel
theorem dX0_gapByRules_65 : decode cX0_gapByRules 65 = .ok (.iload 7, 2) := by decide +kernel
theorem dX0_gapByRules_67 : decode cX0_gapByRules 67 = .ok (.iaload, 1) := by decide +kernel
theorem dX0_gapByRules_68 : decode cX0_gapByRules 68 = .ok (.imul, 1) := by decide +kernel
theorem dX0_gapByRules_69 : decode cX0_gapByRules 69 = .ok (.if_icmp .gt 24, 3) := by decide +kernel
theorem dX0_gapByRules_72 : decode cX0_gapByRules 72 = .ok (.aload_n 0, 1) := by decide +kernel
theorem dX0_gapByRules_73 : decode cX0_gapByRules 73 = .ok (.getfield 24, 3) := by decide +kernel
theorem dX0_gapByRules_76 : decode cX0_gapByRules 76 = .ok (.iload 7, 2) := by decide +kernel
theorem dX0_gapByRules_78 : decode cX0_gapByRules 78 = .ok (.iaload, 1) := by decide +kernel
theorem dX0_gapByRules_79 : decode cX0_gapByRules 79 = .ok (.iload 6, 2) := by decide +kernel
theorem dX0_gapByRules_81 : decode cX0_gapByRules 81 = .ok (.if_icmp .le 12, 3) := by decide +kernel
theorem dX0_gapByRules_84 : decode cX0_gapByRules 84 = .ok (.aload_n 0, 1) := by decide +kernel
theorem dX0_gapByRules_85 : decode cX0_gapByRules 85 = .ok (.getfield 24, 3) := by decide +kernel
theorem dX0_gapByRules_88 : decode cX0_gapByRules 88 = .ok (.iload 7, 2) := by decide +kernel
theorem dX0_gapByRules_90 : decode cX0_gapByRules 90 = .ok (.iaload, 1) := by decide +kernel
theorem dX0_gapByRules_91 : decode cX0_gapByRules 91 = .ok (.istore 6, 2) := by decide +kernel
theorem dX0_gapByRules_93 : decode cX0_gapByRules 93 = .ok (.iinc 7 1, 3) := by decide +kernel
theorem dX0_gapByRules_96 : decode cX0_gapByRules 96 = .ok (.goto (-50), 3) := by decide +kernel
theorem dX0_gapByRules_99 : decode cX0_gapByRules 99 = .ok (.iload 6, 2) := by decide +kernel
theorem dX0_gapByRules_101 : decode cX0_gapByRules 101 = .ok (.ireturn, 1) := by decide +kernel
theorem dX0_rulesInForce_0 : decode cX0_rulesInForce 0 = .ok (.iconst 0, 1) := by decide +kernel
theorem dX0_rulesInForce_1 : decode cX0_rulesInForce 1 = .ok (.istore_n 1, 1) := by decide +kernel
theorem dX0_rulesInForce_2 : decode cX0_rulesInForce 2 = .ok (.iconst 0, 1) := by decide +kernel
theorem dX0_rulesInForce_3 : decode cX0_rulesInForce 3 = .ok (.istore_n 2, 1) := by decide +kernel
theorem dX0_rulesInForce_4 : decode cX0_rulesInForce 4 = .ok (.iload_n 2, 1) := by decide +kernel
theorem dX0_rulesInForce_5 : decode cX0_rulesInForce 5 = .ok (.iconst 3, 1) := by decide +kernel
theorem dX0_rulesInForce_6 : decode cX0_rulesInForce 6 = .ok (.if_icmp .ge 26, 3) := by decide +kernel
theorem dX0_rulesInForce_9 : decode cX0_rulesInForce 9 = .ok (.iload_n 1, 1) := by decide +kernel
theorem dX0_rulesInForce_10 : decode cX0_rulesInForce 10 = .ok (.aload_n 0, 1) := by decide +kernel
theorem dX0_rulesInForce_11 : decode cX0_rulesInForce 11 = .ok (.getfield 21, 3) := by decide +kernel
theorem dX0_rulesInForce_14 : decode cX0_rulesInForce 14 = .ok (.iload_n 2, 1) := by decide +kernel
theorem dX0_rulesInForce_15 : decode cX0_rulesInForce 15 = .ok (.iaload, 1) := by decide +kernel
theorem dX0_rulesInForce_16 : decode cX0_rulesInForce 16 = .ok (.ifCond .le 7, 3) := by decide +kernel
theorem dX0_rulesInForce_19 : decode cX0_rulesInForce 19 = .ok (.iconst 1, 1) := by decide +kernel
theorem dX0_rulesInForce_20 : decode cX0_rulesInForce 20 = .ok (.goto 4, 3) := by decide +kernel
theorem dX0_rulesInForce_23 : decode cX0_rulesInForce 23 = .ok (.iconst 0, 1) := by decide +kernel
theorem dX0_rulesInForce_24 : decode cX0_rulesInForce 24 = .ok (.iadd, 1) := by decide +kernel
theorem dX0_rulesInForce_25 : decode cX0_rulesInForce 25 = .ok (.istore_n 1, 1) := by decide +kernel
theorem dX0_rulesInForce_26 : decode cX0_rulesInForce 26 = .ok (.iinc 2 1, 3) := by decide +kernel
theorem dX0_rulesInForce_29 : decode cX0_rulesInForce 29 = .ok (.goto (-25), 3) := by decide +kernel
theorem dX0_rulesInForce_32 : decode cX0_rulesInForce 32 = .ok (.iload_n 1, 1) := by decide +kernel
theorem dX0_rulesInForce_33 : decode cX0_rulesInForce 33 = .ok (.ireturn, 1) := by decide +kernel
theorem dX0_allowedFor_0 : decode cX0_allowedFor 0 = .ok (.ldc 71, 2) := by decide +kernel
theorem dX0_allowedFor_2 : decode cX0_allowedFor 2 = .ok (.istore_n 2, 1) := by decide +kernel
theorem dX0_allowedFor_3 : decode cX0_allowedFor 3 = .ok (.iconst 0, 1) := by decide +kernel
theorem dX0_allowedFor_4 : decode cX0_allowedFor 4 = .ok (.istore_n 3, 1) := by decide +kernel
theorem dX0_allowedFor_5 : decode cX0_allowedFor 5 = .ok (.iload_n 3, 1) := by decide +kernel
theorem dX0_allowedFor_6 : decode cX0_allowedFor 6 = .ok (.aload_n 0, 1) := by decide +kernel
theorem dX0_allowedFor_7 : decode cX0_allowedFor 7 = .ok (.getfield 40, 3) := by decide +kernel
theorem dX0_allowedFor_10 : decode cX0_allowedFor 10 = .ok (.if_icmp .ge 29, 3) := by decide +kernel
theorem dX0_allowedFor_13 : decode cX0_allowedFor 13 = .ok (.iload_n 2, 1) := by decide +kernel
theorem dX0_allowedFor_14 : decode cX0_allowedFor 14 = .ok (.aload_n 0, 1) := by decide +kernel
theorem dX0_allowedFor_15 : decode cX0_allowedFor 15 = .ok (.getfield 18, 3) := by decide +kernel
theorem dX0_allowedFor_18 : decode cX0_allowedFor 18 = .ok (.iload_n 3, 1) := by decide +kernel
theorem dX0_allowedFor_19 : decode cX0_allowedFor 19 = .ok (.iaload, 1) := by decide +kernel
theorem dX0_allowedFor_20 : decode cX0_allowedFor 20 = .ok (.aload_n 0, 1) := by decide +kernel
theorem dX0_allowedFor_21 : decode cX0_allowedFor 21 = .ok (.iload_n 1, 1) := by decide +kernel
theorem dX0_allowedFor_22 : decode cX0_allowedFor 22 = .ok (.iload_n 3, 1) := by decide +kernel
theorem dX0_allowedFor_23 : decode cX0_allowedFor 23 = .ok (.invokevirtual 72, 3) := by decide +kernel
theorem dX0_allowedFor_26 : decode cX0_allowedFor 26 = .ok (.invokestatic 75, 3) := by decide +kernel
theorem dX0_allowedFor_29 : decode cX0_allowedFor 29 = .ok (.iconst (-1), 1) := by decide +kernel
theorem dX0_allowedFor_30 : decode cX0_allowedFor 30 = .ok (.ixor, 1) := by decide +kernel
theorem dX0_allowedFor_31 : decode cX0_allowedFor 31 = .ok (.iand, 1) := by decide +kernel
theorem dX0_allowedFor_32 : decode cX0_allowedFor 32 = .ok (.istore_n 2, 1) := by decide +kernel
theorem dX0_allowedFor_33 : decode cX0_allowedFor 33 = .ok (.iinc 3 1, 3) := by decide +kernel
theorem dX0_allowedFor_36 : decode cX0_allowedFor 36 = .ok (.goto (-31), 3) := by decide +kernel
theorem dX0_allowedFor_39 : decode cX0_allowedFor 39 = .ok (.iload_n 2, 1) := by decide +kernel
theorem dX0_allowedFor_40 : decode cX0_allowedFor 40 = .ok (.ireturn, 1) := by decide +kernel
theorem dX0_neighboursOf_0 : decode cX0_neighboursOf 0 = .ok (.aload_n 0, 1) := by decide +kernel
theorem dX0_neighboursOf_1 : decode cX0_neighboursOf 1 = .ok (.iload_n 1, 1) := by decide +kernel
theorem dX0_neighboursOf_2 : decode cX0_neighboursOf 2 = .ok (.invokevirtual 49, 3) := by decide +kernel
theorem dX0_neighboursOf_5 : decode cX0_neighboursOf 5 = .ok (.ifCond .eq 12, 3) := by decide +kernel
theorem dX0_neighboursOf_8 : decode cX0_neighboursOf 8 = .ok (.aload_n 0, 1) := by decide +kernel
theorem dX0_neighboursOf_9 : decode cX0_neighboursOf 9 = .ok (.getfield 30, 3) := by decide +kernel
theorem dX0_neighboursOf_12 : decode cX0_neighboursOf 12 = .ok (.iload_n 1, 1) := by decide +kernel
theorem dX0_neighboursOf_13 : decode cX0_neighboursOf 13 = .ok (.iaload, 1) := by decide +kernel
theorem dX0_neighboursOf_14 : decode cX0_neighboursOf 14 = .ok (.goto 4, 3) := by decide +kernel
theorem dX0_neighboursOf_17 : decode cX0_neighboursOf 17 = .ok (.iconst (-1), 1) := by decide +kernel
theorem dX0_neighboursOf_18 : decode cX0_neighboursOf 18 = .ok (.ireturn, 1) := by decide +kernel
theorem dX0_clashesOf_0 : decode cX0_clashesOf 0 = .ok (.aload_n 0, 1) := by decide +kernel
theorem dX0_clashesOf_1 : decode cX0_clashesOf 1 = .ok (.iload_n 1, 1) := by decide +kernel
theorem dX0_clashesOf_2 : decode cX0_clashesOf 2 = .ok (.invokevirtual 53, 3) := by decide +kernel
theorem dX0_clashesOf_5 : decode cX0_clashesOf 5 = .ok (.istore_n 2, 1) := by decide +kernel
theorem dX0_clashesOf_6 : decode cX0_clashesOf 6 = .ok (.iload_n 2, 1) := by decide +kernel
theorem dX0_clashesOf_7 : decode cX0_clashesOf 7 = .ok (.iconst (-1), 1) := by decide +kernel
theorem dX0_clashesOf_8 : decode cX0_clashesOf 8 = .ok (.if_icmp .ne 5, 3) := by decide +kernel
theorem dX0_clashesOf_11 : decode cX0_clashesOf 11 = .ok (.iconst 0, 1) := by decide +kernel
theorem dX0_clashesOf_12 : decode cX0_clashesOf 12 = .ok (.ireturn, 1) := by decide +kernel
theorem dX0_clashesOf_13 : decode cX0_clashesOf 13 = .ok (.iconst 0, 1) := by decide +kernel
theorem dX0_clashesOf_14 : decode cX0_clashesOf 14 = .ok (.istore_n 3, 1) := by decide +kernel
theorem dX0_clashesOf_15 : decode cX0_clashesOf 15 = .ok (.iconst 0, 1) := by decide +kernel
theorem dX0_clashesOf_16 : decode cX0_clashesOf 16 = .ok (.istore 4, 2) := by decide +kernel
theorem dX0_clashesOf_18 : decode cX0_clashesOf 18 = .ok (.iload 4, 2) := by decide +kernel
theorem dX0_clashesOf_20 : decode cX0_clashesOf 20 = .ok (.aload_n 0, 1) := by decide +kernel
theorem dX0_clashesOf_21 : decode cX0_clashesOf 21 = .ok (.getfield 40, 3) := by decide +kernel
theorem dX0_clashesOf_24 : decode cX0_clashesOf 24 = .ok (.if_icmp .ge 33, 3) := by decide +kernel
theorem dX0_clashesOf_27 : decode cX0_clashesOf 27 = .ok (.iload_n 3, 1) := by decide +kernel
theorem dX0_clashesOf_28 : decode cX0_clashesOf 28 = .ok (.aload_n 0, 1) := by decide +kernel
theorem dX0_clashesOf_29 : decode cX0_clashesOf 29 = .ok (.getfield 18, 3) := by decide +kernel
theorem dX0_clashesOf_32 : decode cX0_clashesOf 32 = .ok (.iload 4, 2) := by decide +kernel
theorem dX0_clashesOf_34 : decode cX0_clashesOf 34 = .ok (.iaload, 1) := by decide +kernel
theorem dX0_clashesOf_35 : decode cX0_clashesOf 35 = .ok (.aload_n 0, 1) := by decide +kernel
theorem dX0_clashesOf_36 : decode cX0_clashesOf 36 = .ok (.iload_n 1, 1) := by decide +kernel
theorem dX0_clashesOf_37 : decode cX0_clashesOf 37 = .ok (.iload 4, 2) := by decide +kernel
theorem dX0_clashesOf_39 : decode cX0_clashesOf 39 = .ok (.invokevirtual 72, 3) := by decide +kernel
theorem dX0_clashesOf_42 : decode cX0_clashesOf 42 = .ok (.invokestatic 75, 3) := by decide +kernel
theorem dX0_clashesOf_45 : decode cX0_clashesOf 45 = .ok (.iload_n 2, 1) := by decide +kernel
theorem dX0_clashesOf_46 : decode cX0_clashesOf 46 = .ok (.ishr, 1) := by decide +kernel
theorem dX0_clashesOf_47 : decode cX0_clashesOf 47 = .ok (.iconst 1, 1) := by decide +kernel
theorem dX0_clashesOf_48 : decode cX0_clashesOf 48 = .ok (.iand, 1) := by decide +kernel
theorem dX0_clashesOf_49 : decode cX0_clashesOf 49 = .ok (.iadd, 1) := by decide +kernel
theorem dX0_clashesOf_50 : decode cX0_clashesOf 50 = .ok (.istore_n 3, 1) := by decide +kernel
theorem dX0_clashesOf_51 : decode cX0_clashesOf 51 = .ok (.iinc 4 1, 3) := by decide +kernel
theorem dX0_clashesOf_54 : decode cX0_clashesOf 54 = .ok (.goto (-36), 3) := by decide +kernel
theorem dX0_clashesOf_57 : decode cX0_clashesOf 57 = .ok (.iload_n 3, 1) := by decide +kernel
theorem dX0_clashesOf_58 : decode cX0_clashesOf 58 = .ok (.ireturn, 1) := by decide +kernel
theorem dX0_clashes_0 : decode cX0_clashes 0 = .ok (.iconst 0, 1) := by decide +kernel
theorem dX0_clashes_1 : decode cX0_clashes 1 = .ok (.istore_n 1, 1) := by decide +kernel
theorem dX0_clashes_2 : decode cX0_clashes 2 = .ok (.iconst 0, 1) := by decide +kernel
theorem dX0_clashes_3 : decode cX0_clashes 3 = .ok (.istore_n 2, 1) := by decide +kernel
theorem dX0_clashes_4 : decode cX0_clashes 4 = .ok (.iload_n 2, 1) := by decide +kernel
theorem dX0_clashes_5 : decode cX0_clashes 5 = .ok (.aload_n 0, 1) := by decide +kernel
theorem dX0_clashes_6 : decode cX0_clashes 6 = .ok (.getfield 40, 3) := by decide +kernel
theorem dX0_clashes_9 : decode cX0_clashes 9 = .ok (.if_icmp .ge 17, 3) := by decide +kernel
theorem dX0_clashes_12 : decode cX0_clashes 12 = .ok (.iload_n 1, 1) := by decide +kernel
theorem dX0_clashes_13 : decode cX0_clashes 13 = .ok (.aload_n 0, 1) := by decide +kernel
theorem dX0_clashes_14 : decode cX0_clashes 14 = .ok (.iload_n 2, 1) := by decide +kernel
theorem dX0_clashes_15 : decode cX0_clashes 15 = .ok (.invokevirtual 78, 3) := by decide +kernel
theorem dX0_clashes_18 : decode cX0_clashes 18 = .ok (.iadd, 1) := by decide +kernel
theorem dX0_clashes_19 : decode cX0_clashes 19 = .ok (.istore_n 1, 1) := by decide +kernel
theorem dX0_clashes_20 : decode cX0_clashes 20 = .ok (.iinc 2 1, 3) := by decide +kernel
theorem dX0_clashes_23 : decode cX0_clashes 23 = .ok (.goto (-19), 3) := by decide +kernel
theorem dX0_clashes_26 : decode cX0_clashes 26 = .ok (.iload_n 1, 1) := by decide +kernel
theorem dX0_clashes_27 : decode cX0_clashes 27 = .ok (.iconst 2, 1) := by decide +kernel
theorem dX0_clashes_28 : decode cX0_clashes 28 = .ok (.idiv, 1) := by decide +kernel
theorem dX0_clashes_29 : decode cX0_clashes 29 = .ok (.ireturn, 1) := by decide +kernel
theorem dX0_span_0 : decode cX0_span 0 = .ok (.aload_n 0, 1) := by decide +kernel
theorem dX0_span_1 : decode cX0_span 1 = .ok (.invokevirtual 81, 3) := by decide +kernel
theorem dX0_span_4 : decode cX0_span 4 = .ok (.istore_n 1, 1) := by decide +kernel
theorem dX0_span_5 : decode cX0_span 5 = .ok (.iload_n 1, 1) := by decide +kernel
theorem dX0_span_6 : decode cX0_span 6 = .ok (.ifCond .ne 5, 3) := by decide +kernel
theorem dX0_span_9 : decode cX0_span 9 = .ok (.iconst 0, 1) := by decide +kernel
theorem dX0_span_10 : decode cX0_span 10 = .ok (.ireturn, 1) := by decide +kernel
theorem dX0_span_11 : decode cX0_span 11 = .ok (.iconst 0, 1) := by decide +kernel
theorem dX0_span_12 : decode cX0_span 12 = .ok (.istore_n 2, 1) := by decide +kernel
theorem dX0_span_13 : decode cX0_span 13 = .ok (.iconst 0, 1) := by decide +kernel
theorem dX0_span_14 : decode cX0_span 14 = .ok (.istore_n 3, 1) := by decide +kernel
theorem dX0_span_15 : decode cX0_span 15 = .ok (.iload_n 3, 1) := by decide +kernel
theorem dX0_span_16 : decode cX0_span 16 = .ok (.bipush 20, 2) := by decide +kernel
theorem dX0_span_18 : decode cX0_span 18 = .ok (.if_icmp .ge 24, 3) := by decide +kernel
theorem dX0_span_21 : decode cX0_span 21 = .ok (.iload_n 1, 1) := by decide +kernel
theorem dX0_span_22 : decode cX0_span 22 = .ok (.iload_n 3, 1) := by decide +kernel
theorem dX0_span_23 : decode cX0_span 23 = .ok (.ishr, 1) := by decide +kernel
theorem dX0_span_24 : decode cX0_span 24 = .ok (.iconst 1, 1) := by decide +kernel
theorem dX0_span_25 : decode cX0_span 25 = .ok (.iand, 1) := by decide +kernel
theorem dX0_span_26 : decode cX0_span 26 = .ok (.iconst 1, 1) := by decide +kernel
theorem dX0_span_27 : decode cX0_span 27 = .ok (.if_icmp .ne 7, 3) := by decide +kernel
theorem dX0_span_30 : decode cX0_span 30 = .ok (.iload_n 3, 1) := by decide +kernel
theorem dX0_span_31 : decode cX0_span 31 = .ok (.goto 4, 3) := by decide +kernel
theorem dX0_span_34 : decode cX0_span 34 = .ok (.iload_n 2, 1) := by decide +kernel
theorem dX0_span_35 : decode cX0_span 35 = .ok (.istore_n 2, 1) := by decide +kernel
theorem dX0_span_36 : decode cX0_span 36 = .ok (.iinc 3 1, 3) := by decide +kernel
theorem dX0_span_39 : decode cX0_span 39 = .ok (.goto (-24), 3) := by decide +kernel
theorem dX0_span_42 : decode cX0_span 42 = .ok (.iload_n 2, 1) := by decide +kernel
theorem dX0_span_43 : decode cX0_span 43 = .ok (.iload_n 1, 1) := by decide +kernel
theorem dX0_span_44 : decode cX0_span 44 = .ok (.invokestatic 85, 3) := by decide +kernel
theorem dX0_span_47 : decode cX0_span 47 = .ok (.isub, 1) := by decide +kernel
theorem dX0_span_48 : decode cX0_span 48 = .ok (.iconst 1, 1) := by decide +kernel
theorem dX0_span_49 : decode cX0_span 49 = .ok (.iadd, 1) := by decide +kernel
theorem dX0_span_50 : decode cX0_span 50 = .ok (.ireturn, 1) := by decide +kernel
theorem dX0_usedChannels_0 : decode cX0_usedChannels 0 = .ok (.iconst 0, 1) := by decide +kernel
theorem dX0_usedChannels_1 : decode cX0_usedChannels 1 = .ok (.istore_n 1, 1) := by decide +kernel
theorem dX0_usedChannels_2 : decode cX0_usedChannels 2 = .ok (.iconst 0, 1) := by decide +kernel
theorem dX0_usedChannels_3 : decode cX0_usedChannels 3 = .ok (.istore_n 2, 1) := by decide +kernel
theorem dX0_usedChannels_4 : decode cX0_usedChannels 4 = .ok (.iload_n 2, 1) := by decide +kernel
theorem dX0_usedChannels_5 : decode cX0_usedChannels 5 = .ok (.aload_n 0, 1) := by decide +kernel
theorem dX0_usedChannels_6 : decode cX0_usedChannels 6 = .ok (.getfield 40, 3) := by decide +kernel
theorem dX0_usedChannels_9 : decode cX0_usedChannels 9 = .ok (.if_icmp .ge 22, 3) := by decide +kernel
theorem dX0_usedChannels_12 : decode cX0_usedChannels 12 = .ok (.iload_n 1, 1) := by decide +kernel
theorem dX0_usedChannels_13 : decode cX0_usedChannels 13 = .ok (.aload_n 0, 1) := by decide +kernel
theorem dX0_usedChannels_14 : decode cX0_usedChannels 14 = .ok (.getfield 18, 3) := by decide +kernel
theorem dX0_usedChannels_17 : decode cX0_usedChannels 17 = .ok (.iload_n 2, 1) := by decide +kernel
theorem dX0_usedChannels_18 : decode cX0_usedChannels 18 = .ok (.iaload, 1) := by decide +kernel
theorem dX0_usedChannels_19 : decode cX0_usedChannels 19 = .ok (.iconst 1, 1) := by decide +kernel
theorem dX0_usedChannels_20 : decode cX0_usedChannels 20 = .ok (.invokestatic 75, 3) := by decide +kernel
theorem dX0_usedChannels_23 : decode cX0_usedChannels 23 = .ok (.ior, 1) := by decide +kernel
theorem dX0_usedChannels_24 : decode cX0_usedChannels 24 = .ok (.istore_n 1, 1) := by decide +kernel
theorem dX0_usedChannels_25 : decode cX0_usedChannels 25 = .ok (.iinc 2 1, 3) := by decide +kernel
theorem dX0_usedChannels_28 : decode cX0_usedChannels 28 = .ok (.goto (-24), 3) := by decide +kernel
theorem dX0_usedChannels_31 : decode cX0_usedChannels 31 = .ok (.iload_n 1, 1) := by decide +kernel
theorem dX0_usedChannels_32 : decode cX0_usedChannels 32 = .ok (.ireturn, 1) := by decide +kernel
theorem dX0_tuned_0 : decode cX0_tuned 0 = .ok (.iconst 0, 1) := by decide +kernel
theorem dX0_tuned_1 : decode cX0_tuned 1 = .ok (.istore_n 1, 1) := by decide +kernel
theorem dX0_tuned_2 : decode cX0_tuned 2 = .ok (.iconst 0, 1) := by decide +kernel
theorem dX0_tuned_3 : decode cX0_tuned 3 = .ok (.istore_n 2, 1) := by decide +kernel
theorem dX0_tuned_4 : decode cX0_tuned 4 = .ok (.iload_n 2, 1) := by decide +kernel
theorem dX0_tuned_5 : decode cX0_tuned 5 = .ok (.aload_n 0, 1) := by decide +kernel
theorem dX0_tuned_6 : decode cX0_tuned 6 = .ok (.getfield 40, 3) := by decide +kernel
theorem dX0_tuned_9 : decode cX0_tuned 9 = .ok (.if_icmp .ge 27, 3) := by decide +kernel
theorem dX0_tuned_12 : decode cX0_tuned 12 = .ok (.iload_n 1, 1) := by decide +kernel
theorem dX0_tuned_13 : decode cX0_tuned 13 = .ok (.aload_n 0, 1) := by decide +kernel
theorem dX0_tuned_14 : decode cX0_tuned 14 = .ok (.getfield 18, 3) := by decide +kernel
theorem dX0_tuned_17 : decode cX0_tuned 17 = .ok (.iload_n 2, 1) := by decide +kernel
theorem dX0_tuned_18 : decode cX0_tuned 18 = .ok (.iaload, 1) := by decide +kernel
theorem dX0_tuned_19 : decode cX0_tuned 19 = .ok (.iconst (-1), 1) := by decide +kernel
theorem dX0_tuned_20 : decode cX0_tuned 20 = .ok (.if_icmp .ne 7, 3) := by decide +kernel
theorem dX0_tuned_23 : decode cX0_tuned 23 = .ok (.iconst 0, 1) := by decide +kernel
theorem dX0_tuned_24 : decode cX0_tuned 24 = .ok (.goto 4, 3) := by decide +kernel
theorem dX0_tuned_27 : decode cX0_tuned 27 = .ok (.iconst 1, 1) := by decide +kernel
theorem dX0_tuned_28 : decode cX0_tuned 28 = .ok (.iadd, 1) := by decide +kernel
theorem dX0_tuned_29 : decode cX0_tuned 29 = .ok (.istore_n 1, 1) := by decide +kernel
theorem dX0_tuned_30 : decode cX0_tuned 30 = .ok (.iinc 2 1, 3) := by decide +kernel
theorem dX0_tuned_33 : decode cX0_tuned 33 = .ok (.goto (-29), 3) := by decide +kernel
theorem dX0_tuned_36 : decode cX0_tuned 36 = .ok (.iload_n 1, 1) := by decide +kernel
theorem dX0_tuned_37 : decode cX0_tuned 37 = .ok (.ireturn, 1) := by decide +kernel
theorem dX0_channelSum_0 : decode cX0_channelSum 0 = .ok (.iconst 0, 1) := by decide +kernel
theorem dX0_channelSum_1 : decode cX0_channelSum 1 = .ok (.istore_n 1, 1) := by decide +kernel
theorem dX0_channelSum_2 : decode cX0_channelSum 2 = .ok (.iconst 0, 1) := by decide +kernel
theorem dX0_channelSum_3 : decode cX0_channelSum 3 = .ok (.istore_n 2, 1) := by decide +kernel
theorem dX0_channelSum_4 : decode cX0_channelSum 4 = .ok (.iload_n 2, 1) := by decide +kernel
theorem dX0_channelSum_5 : decode cX0_channelSum 5 = .ok (.aload_n 0, 1) := by decide +kernel
theorem dX0_channelSum_6 : decode cX0_channelSum 6 = .ok (.getfield 40, 3) := by decide +kernel
theorem dX0_channelSum_9 : decode cX0_channelSum 9 = .ok (.if_icmp .ge 32, 3) := by decide +kernel
theorem dX0_channelSum_12 : decode cX0_channelSum 12 = .ok (.iload_n 1, 1) := by decide +kernel
theorem dX0_channelSum_13 : decode cX0_channelSum 13 = .ok (.aload_n 0, 1) := by decide +kernel
theorem dX0_channelSum_14 : decode cX0_channelSum 14 = .ok (.getfield 18, 3) := by decide +kernel
theorem dX0_channelSum_17 : decode cX0_channelSum 17 = .ok (.iload_n 2, 1) := by decide +kernel
theorem dX0_channelSum_18 : decode cX0_channelSum 18 = .ok (.iaload, 1) := by decide +kernel
theorem dX0_channelSum_19 : decode cX0_channelSum 19 = .ok (.iconst (-1), 1) := by decide +kernel
theorem dX0_channelSum_20 : decode cX0_channelSum 20 = .ok (.if_icmp .ne 7, 3) := by decide +kernel
theorem dX0_channelSum_23 : decode cX0_channelSum 23 = .ok (.iconst 0, 1) := by decide +kernel
theorem dX0_channelSum_24 : decode cX0_channelSum 24 = .ok (.goto 9, 3) := by decide +kernel
theorem dX0_channelSum_27 : decode cX0_channelSum 27 = .ok (.aload_n 0, 1) := by decide +kernel
theorem dX0_channelSum_28 : decode cX0_channelSum 28 = .ok (.getfield 18, 3) := by decide +kernel
theorem dX0_channelSum_31 : decode cX0_channelSum 31 = .ok (.iload_n 2, 1) := by decide +kernel
theorem dX0_channelSum_32 : decode cX0_channelSum 32 = .ok (.iaload, 1) := by decide +kernel
theorem dX0_channelSum_33 : decode cX0_channelSum 33 = .ok (.iadd, 1) := by decide +kernel
theorem dX0_channelSum_34 : decode cX0_channelSum 34 = .ok (.istore_n 1, 1) := by decide +kernel
theorem dX0_channelSum_35 : decode cX0_channelSum 35 = .ok (.iinc 2 1, 3) := by decide +kernel
theorem dX0_channelSum_38 : decode cX0_channelSum 38 = .ok (.goto (-34), 3) := by decide +kernel
theorem dX0_channelSum_41 : decode cX0_channelSum 41 = .ok (.iload_n 1, 1) := by decide +kernel
theorem dX0_channelSum_42 : decode cX0_channelSum 42 = .ok (.ireturn, 1) := by decide +kernel
theorem dX0_fixedBits_0 : decode cX0_fixedBits 0 = .ok (.aload_n 0, 1) := by decide +kernel
theorem dX0_fixedBits_1 : decode cX0_fixedBits 1 = .ok (.getfield 36, 3) := by decide +kernel
theorem dX0_fixedBits_4 : decode cX0_fixedBits 4 = .ok (.ireturn, 1) := by decide +kernel
theorem dX0_rankedAt_0 : decode cX0_rankedAt 0 = .ok (.iconst 0, 1) := by decide +kernel
theorem dX0_rankedAt_1 : decode cX0_rankedAt 1 = .ok (.istore_n 2, 1) := by decide +kernel
theorem dX0_rankedAt_2 : decode cX0_rankedAt 2 = .ok (.iconst 0, 1) := by decide +kernel
theorem dX0_rankedAt_3 : decode cX0_rankedAt 3 = .ok (.istore_n 3, 1) := by decide +kernel
theorem dX0_rankedAt_4 : decode cX0_rankedAt 4 = .ok (.iload_n 3, 1) := by decide +kernel
theorem dX0_rankedAt_5 : decode cX0_rankedAt 5 = .ok (.bipush 20, 2) := by decide +kernel
theorem dX0_rankedAt_7 : decode cX0_rankedAt 7 = .ok (.if_icmp .ge 49, 3) := by decide +kernel
theorem dX0_rankedAt_10 : decode cX0_rankedAt 10 = .ok (.iconst 0, 1) := by decide +kernel
theorem dX0_rankedAt_11 : decode cX0_rankedAt 11 = .ok (.istore 4, 2) := by decide +kernel
theorem dX0_rankedAt_13 : decode cX0_rankedAt 13 = .ok (.iload 4, 2) := by decide +kernel
theorem dX0_rankedAt_15 : decode cX0_rankedAt 15 = .ok (.aload_n 0, 1) := by decide +kernel
theorem dX0_rankedAt_16 : decode cX0_rankedAt 16 = .ok (.getfield 40, 3) := by decide +kernel
theorem dX0_rankedAt_19 : decode cX0_rankedAt 19 = .ok (.if_icmp .ge 31, 3) := by decide +kernel
theorem dX0_rankedAt_22 : decode cX0_rankedAt 22 = .ok (.aload_n 0, 1) := by decide +kernel
theorem dX0_rankedAt_23 : decode cX0_rankedAt 23 = .ok (.getfield 18, 3) := by decide +kernel
theorem dX0_rankedAt_26 : decode cX0_rankedAt 26 = .ok (.iload 4, 2) := by decide +kernel
theorem dX0_rankedAt_28 : decode cX0_rankedAt 28 = .ok (.iaload, 1) := by decide +kernel
theorem dX0_rankedAt_29 : decode cX0_rankedAt 29 = .ok (.iload_n 3, 1) := by decide +kernel
theorem dX0_rankedAt_30 : decode cX0_rankedAt 30 = .ok (.if_icmp .ne 14, 3) := by decide +kernel
theorem dX0_rankedAt_33 : decode cX0_rankedAt 33 = .ok (.iload_n 2, 1) := by decide +kernel
theorem dX0_rankedAt_34 : decode cX0_rankedAt 34 = .ok (.iload_n 1, 1) := by decide +kernel
theorem dX0_rankedAt_35 : decode cX0_rankedAt 35 = .ok (.if_icmp .ne 6, 3) := by decide +kernel
theorem dX0_rankedAt_38 : decode cX0_rankedAt 38 = .ok (.iload 4, 2) := by decide +kernel
theorem dX0_rankedAt_40 : decode cX0_rankedAt 40 = .ok (.ireturn, 1) := by decide +kernel
theorem dX0_rankedAt_41 : decode cX0_rankedAt 41 = .ok (.iinc 2 1, 3) := by decide +kernel
theorem dX0_rankedAt_44 : decode cX0_rankedAt 44 = .ok (.iinc 4 1, 3) := by decide +kernel
theorem dX0_rankedAt_47 : decode cX0_rankedAt 47 = .ok (.goto (-34), 3) := by decide +kernel
theorem dX0_rankedAt_50 : decode cX0_rankedAt 50 = .ok (.iinc 3 1, 3) := by decide +kernel
theorem dX0_rankedAt_53 : decode cX0_rankedAt 53 = .ok (.goto (-49), 3) := by decide +kernel
theorem dX0_rankedAt_56 : decode cX0_rankedAt 56 = .ok (.bipush (-5), 2) := by decide +kernel
theorem dX0_rankedAt_58 : decode cX0_rankedAt 58 = .ok (.ireturn, 1) := by decide +kernel
theorem dX0_tuneAll_0 : decode cX0_tuneAll 0 = .ok (.iconst 0, 1) := by decide +kernel
theorem dX0_tuneAll_1 : decode cX0_tuneAll 1 = .ok (.istore_n 1, 1) := by decide +kernel
theorem dX0_tuneAll_2 : decode cX0_tuneAll 2 = .ok (.iconst 0, 1) := by decide +kernel
theorem dX0_tuneAll_3 : decode cX0_tuneAll 3 = .ok (.istore_n 2, 1) := by decide +kernel
theorem dX0_tuneAll_4 : decode cX0_tuneAll 4 = .ok (.iload_n 2, 1) := by decide +kernel
theorem dX0_tuneAll_5 : decode cX0_tuneAll 5 = .ok (.aload_n 0, 1) := by decide +kernel
theorem dX0_tuneAll_6 : decode cX0_tuneAll 6 = .ok (.getfield 40, 3) := by decide +kernel
theorem dX0_tuneAll_9 : decode cX0_tuneAll 9 = .ok (.if_icmp .ge 30, 3) := by decide +kernel
theorem dX0_tuneAll_12 : decode cX0_tuneAll 12 = .ok (.aload_n 0, 1) := by decide +kernel
theorem dX0_tuneAll_13 : decode cX0_tuneAll 13 = .ok (.iload_n 2, 1) := by decide +kernel
theorem dX0_tuneAll_14 : decode cX0_tuneAll 14 = .ok (.invokevirtual 88, 3) := by decide +kernel
theorem dX0_tuneAll_17 : decode cX0_tuneAll 17 = .ok (.ifCond .ne 16, 3) := by decide +kernel
theorem dX0_tuneAll_20 : decode cX0_tuneAll 20 = .ok (.aload_n 0, 1) := by decide +kernel
theorem dX0_tuneAll_21 : decode cX0_tuneAll 21 = .ok (.getfield 18, 3) := by decide +kernel
theorem dX0_tuneAll_24 : decode cX0_tuneAll 24 = .ok (.iload_n 2, 1) := by decide +kernel
theorem dX0_tuneAll_25 : decode cX0_tuneAll 25 = .ok (.iconst (-1), 1) := by decide +kernel
theorem dX0_tuneAll_26 : decode cX0_tuneAll 26 = .ok (.iastore, 1) := by decide +kernel
theorem dX0_tuneAll_27 : decode cX0_tuneAll 27 = .ok (.iload_n 1, 1) := by decide +kernel
theorem dX0_tuneAll_28 : decode cX0_tuneAll 28 = .ok (.iconst 1, 1) := by decide +kernel
theorem dX0_tuneAll_29 : decode cX0_tuneAll 29 = .ok (.iload_n 2, 1) := by decide +kernel
theorem dX0_tuneAll_30 : decode cX0_tuneAll 30 = .ok (.ishl, 1) := by decide +kernel
theorem dX0_tuneAll_31 : decode cX0_tuneAll 31 = .ok (.ior, 1) := by decide +kernel
theorem dX0_tuneAll_32 : decode cX0_tuneAll 32 = .ok (.istore_n 1, 1) := by decide +kernel
theorem dX0_tuneAll_33 : decode cX0_tuneAll 33 = .ok (.iinc 2 1, 3) := by decide +kernel
theorem dX0_tuneAll_36 : decode cX0_tuneAll 36 = .ok (.goto (-32), 3) := by decide +kernel
theorem dX0_tuneAll_39 : decode cX0_tuneAll 39 = .ok (.iconst 0, 1) := by decide +kernel
theorem dX0_tuneAll_40 : decode cX0_tuneAll 40 = .ok (.istore_n 2, 1) := by decide +kernel
theorem dX0_tuneAll_41 : decode cX0_tuneAll 41 = .ok (.iload_n 2, 1) := by decide +kernel
theorem dX0_tuneAll_42 : decode cX0_tuneAll 42 = .ok (.aload_n 0, 1) := by decide +kernel
theorem dX0_tuneAll_43 : decode cX0_tuneAll 43 = .ok (.getfield 40, 3) := by decide +kernel
theorem dX0_tuneAll_46 : decode cX0_tuneAll 46 = .ok (.if_icmp .ge 20, 3) := by decide +kernel
theorem dX0_tuneAll_49 : decode cX0_tuneAll 49 = .ok (.aload_n 0, 1) := by decide +kernel
theorem dX0_tuneAll_50 : decode cX0_tuneAll 50 = .ok (.getfield 33, 3) := by decide +kernel
theorem dX0_tuneAll_53 : decode cX0_tuneAll 53 = .ok (.iload_n 2, 1) := by decide +kernel
theorem dX0_tuneAll_54 : decode cX0_tuneAll 54 = .ok (.aload_n 0, 1) := by decide +kernel
theorem dX0_tuneAll_55 : decode cX0_tuneAll 55 = .ok (.iload_n 2, 1) := by decide +kernel
theorem dX0_tuneAll_56 : decode cX0_tuneAll 56 = .ok (.invokevirtual 91, 3) := by decide +kernel
theorem dX0_tuneAll_59 : decode cX0_tuneAll 59 = .ok (.iastore, 1) := by decide +kernel
theorem dX0_tuneAll_60 : decode cX0_tuneAll 60 = .ok (.iinc 2 1, 3) := by decide +kernel
theorem dX0_tuneAll_63 : decode cX0_tuneAll 63 = .ok (.goto (-22), 3) := by decide +kernel
theorem dX0_tuneAll_66 : decode cX0_tuneAll 66 = .ok (.iconst 0, 1) := by decide +kernel
theorem dX0_tuneAll_67 : decode cX0_tuneAll 67 = .ok (.istore_n 2, 1) := by decide +kernel
theorem dX0_tuneAll_68 : decode cX0_tuneAll 68 = .ok (.iconst 0, 1) := by decide +kernel
theorem dX0_tuneAll_69 : decode cX0_tuneAll 69 = .ok (.istore_n 3, 1) := by decide +kernel
theorem dX0_tuneAll_70 : decode cX0_tuneAll 70 = .ok (.iload_n 3, 1) := by decide +kernel
theorem dX0_tuneAll_71 : decode cX0_tuneAll 71 = .ok (.aload_n 0, 1) := by decide +kernel
theorem dX0_tuneAll_72 : decode cX0_tuneAll 72 = .ok (.getfield 40, 3) := by decide +kernel
theorem dX0_tuneAll_75 : decode cX0_tuneAll 75 = .ok (.if_icmp .ge 68, 3) := by decide +kernel
theorem dX0_tuneAll_78 : decode cX0_tuneAll 78 = .ok (.iload_n 1, 1) := by decide +kernel
theorem dX0_tuneAll_79 : decode cX0_tuneAll 79 = .ok (.ifCond .eq 64, 3) := by decide +kernel
theorem dX0_tuneAll_82 : decode cX0_tuneAll 82 = .ok (.aload_n 0, 1) := by decide +kernel
theorem dX0_tuneAll_83 : decode cX0_tuneAll 83 = .ok (.iload_n 1, 1) := by decide +kernel
theorem dX0_tuneAll_84 : decode cX0_tuneAll 84 = .ok (.invokevirtual 94, 3) := by decide +kernel
theorem dX0_tuneAll_87 : decode cX0_tuneAll 87 = .ok (.istore 4, 2) := by decide +kernel
theorem dX0_tuneAll_89 : decode cX0_tuneAll 89 = .ok (.iload 4, 2) := by decide +kernel
theorem dX0_tuneAll_91 : decode cX0_tuneAll 91 = .ok (.ifCond .ge 5, 3) := by decide +kernel
theorem dX0_tuneAll_94 : decode cX0_tuneAll 94 = .ok (.iload_n 2, 1) := by decide +kernel
theorem dX0_tuneAll_95 : decode cX0_tuneAll 95 = .ok (.ireturn, 1) := by decide +kernel
theorem dX0_tuneAll_96 : decode cX0_tuneAll 96 = .ok (.iload_n 1, 1) := by decide +kernel
theorem dX0_tuneAll_97 : decode cX0_tuneAll 97 = .ok (.iconst 1, 1) := by decide +kernel
theorem dX0_tuneAll_98 : decode cX0_tuneAll 98 = .ok (.iload 4, 2) := by decide +kernel
theorem dX0_tuneAll_100 : decode cX0_tuneAll 100 = .ok (.ishl, 1) := by decide +kernel
theorem dX0_tuneAll_101 : decode cX0_tuneAll 101 = .ok (.iconst (-1), 1) := by decide +kernel
theorem dX0_tuneAll_102 : decode cX0_tuneAll 102 = .ok (.ixor, 1) := by decide +kernel
theorem dX0_tuneAll_103 : decode cX0_tuneAll 103 = .ok (.iand, 1) := by decide +kernel
theorem dX0_tuneAll_104 : decode cX0_tuneAll 104 = .ok (.istore_n 1, 1) := by decide +kernel
theorem dX0_tuneAll_105 : decode cX0_tuneAll 105 = .ok (.aload_n 0, 1) := by decide +kernel
theorem dX0_tuneAll_106 : decode cX0_tuneAll 106 = .ok (.getfield 33, 3) := by decide +kernel
theorem dX0_tuneAll_109 : decode cX0_tuneAll 109 = .ok (.iload 4, 2) := by decide +kernel
theorem dX0_tuneAll_111 : decode cX0_tuneAll 111 = .ok (.iaload, 1) := by decide +kernel
theorem dX0_tuneAll_112 : decode cX0_tuneAll 112 = .ok (.ifCond .ne 9, 3) := by decide +kernel
theorem dX0_tuneAll_115 : decode cX0_tuneAll 115 = .ok (.iinc 2 1, 3) := by decide +kernel
theorem dX0_tuneAll_118 : decode cX0_tuneAll 118 = .ok (.goto 19, 3) := by decide +kernel
theorem dX0_tuneAll_121 : decode cX0_tuneAll 121 = .ok (.aload_n 0, 1) := by decide +kernel
theorem dX0_tuneAll_122 : decode cX0_tuneAll 122 = .ok (.iload 4, 2) := by decide +kernel
theorem dX0_tuneAll_124 : decode cX0_tuneAll 124 = .ok (.aload_n 0, 1) := by decide +kernel
theorem dX0_tuneAll_125 : decode cX0_tuneAll 125 = .ok (.getfield 33, 3) := by decide +kernel
theorem dX0_tuneAll_128 : decode cX0_tuneAll 128 = .ok (.iload 4, 2) := by decide +kernel
theorem dX0_tuneAll_130 : decode cX0_tuneAll 130 = .ok (.iaload, 1) := by decide +kernel
theorem dX0_tuneAll_131 : decode cX0_tuneAll 131 = .ok (.invokestatic 85, 3) := by decide +kernel
theorem dX0_tuneAll_134 : decode cX0_tuneAll 134 = .ok (.invokevirtual 97, 3) := by decide +kernel
theorem dX0_tuneAll_137 : decode cX0_tuneAll 137 = .ok (.iinc 3 1, 3) := by decide +kernel
theorem dX0_tuneAll_140 : decode cX0_tuneAll 140 = .ok (.goto (-70), 3) := by decide +kernel
theorem dX0_tuneAll_143 : decode cX0_tuneAll 143 = .ok (.iload_n 2, 1) := by decide +kernel
theorem dX0_tuneAll_144 : decode cX0_tuneAll 144 = .ok (.ireturn, 1) := by decide +kernel
theorem dX0_tightest_0 : decode cX0_tightest 0 = .ok (.iconst (-1), 1) := by decide +kernel
theorem dX0_tightest_1 : decode cX0_tightest 1 = .ok (.istore_n 2, 1) := by decide +kernel
theorem dX0_tightest_2 : decode cX0_tightest 2 = .ok (.iconst 0, 1) := by decide +kernel
theorem dX0_tightest_3 : decode cX0_tightest 3 = .ok (.istore_n 3, 1) := by decide +kernel
theorem dX0_tightest_4 : decode cX0_tightest 4 = .ok (.iconst 0, 1) := by decide +kernel
theorem dX0_tightest_5 : decode cX0_tightest 5 = .ok (.istore 4, 2) := by decide +kernel
theorem dX0_tightest_7 : decode cX0_tightest 7 = .ok (.iconst 0, 1) := by decide +kernel
theorem dX0_tightest_8 : decode cX0_tightest 8 = .ok (.istore 5, 2) := by decide +kernel
theorem dX0_tightest_10 : decode cX0_tightest 10 = .ok (.iload 5, 2) := by decide +kernel
theorem dX0_tightest_12 : decode cX0_tightest 12 = .ok (.aload_n 0, 1) := by decide +kernel
theorem dX0_tightest_13 : decode cX0_tightest 13 = .ok (.getfield 40, 3) := by decide +kernel
theorem dX0_tightest_16 : decode cX0_tightest 16 = .ok (.if_icmp .ge 74, 3) := by decide +kernel
theorem dX0_tightest_19 : decode cX0_tightest 19 = .ok (.iload_n 1, 1) := by decide +kernel
theorem dX0_tightest_20 : decode cX0_tightest 20 = .ok (.iload 5, 2) := by decide +kernel
theorem dX0_tightest_22 : decode cX0_tightest 22 = .ok (.ishr, 1) := by decide +kernel
theorem dX0_tightest_23 : decode cX0_tightest 23 = .ok (.iconst 1, 1) := by decide +kernel
theorem dX0_tightest_24 : decode cX0_tightest 24 = .ok (.iand, 1) := by decide +kernel
theorem dX0_tightest_25 : decode cX0_tightest 25 = .ok (.iconst 1, 1) := by decide +kernel
theorem dX0_tightest_26 : decode cX0_tightest 26 = .ok (.if_icmp .ne 58, 3) := by decide +kernel
theorem dX0_tightest_29 : decode cX0_tightest 29 = .ok (.aload_n 0, 1) := by decide +kernel
theorem dX0_tightest_30 : decode cX0_tightest 30 = .ok (.getfield 33, 3) := by decide +kernel
theorem dX0_tightest_33 : decode cX0_tightest 33 = .ok (.iload 5, 2) := by decide +kernel
theorem dX0_tightest_35 : decode cX0_tightest 35 = .ok (.iaload, 1) := by decide +kernel
theorem dX0_tightest_36 : decode cX0_tightest 36 = .ok (.invokestatic 101, 3) := by decide +kernel
theorem dX0_tightest_39 : decode cX0_tightest 39 = .ok (.istore 6, 2) := by decide +kernel
theorem dX0_tightest_41 : decode cX0_tightest 41 = .ok (.iload_n 2, 1) := by decide +kernel
theorem dX0_tightest_42 : decode cX0_tightest 42 = .ok (.ifCond .lt 27, 3) := by decide +kernel
theorem dX0_tightest_45 : decode cX0_tightest 45 = .ok (.iload 6, 2) := by decide +kernel
theorem dX0_tightest_47 : decode cX0_tightest 47 = .ok (.iload_n 3, 1) := by decide +kernel
theorem dX0_tightest_48 : decode cX0_tightest 48 = .ok (.if_icmp .lt 21, 3) := by decide +kernel
theorem dX0_tightest_51 : decode cX0_tightest 51 = .ok (.iload 6, 2) := by decide +kernel
theorem dX0_tightest_53 : decode cX0_tightest 53 = .ok (.iload_n 3, 1) := by decide +kernel
theorem dX0_tightest_54 : decode cX0_tightest 54 = .ok (.if_icmp .ne 30, 3) := by decide +kernel
theorem dX0_tightest_57 : decode cX0_tightest 57 = .ok (.aload_n 0, 1) := by decide +kernel
theorem dX0_tightest_58 : decode cX0_tightest 58 = .ok (.getfield 30, 3) := by decide +kernel
theorem dX0_tightest_61 : decode cX0_tightest 61 = .ok (.iload 5, 2) := by decide +kernel
theorem dX0_tightest_63 : decode cX0_tightest 63 = .ok (.iaload, 1) := by decide +kernel
theorem dX0_tightest_64 : decode cX0_tightest 64 = .ok (.iload 4, 2) := by decide +kernel
theorem dX0_tightest_66 : decode cX0_tightest 66 = .ok (.if_icmp .le 18, 3) := by decide +kernel
theorem dX0_tightest_69 : decode cX0_tightest 69 = .ok (.iload 5, 2) := by decide +kernel
theorem dX0_tightest_71 : decode cX0_tightest 71 = .ok (.istore_n 2, 1) := by decide +kernel
theorem dX0_tightest_72 : decode cX0_tightest 72 = .ok (.iload 6, 2) := by decide +kernel
theorem dX0_tightest_74 : decode cX0_tightest 74 = .ok (.istore_n 3, 1) := by decide +kernel
theorem dX0_tightest_75 : decode cX0_tightest 75 = .ok (.aload_n 0, 1) := by decide +kernel
theorem dX0_tightest_76 : decode cX0_tightest 76 = .ok (.getfield 30, 3) := by decide +kernel
theorem dX0_tightest_79 : decode cX0_tightest 79 = .ok (.iload 5, 2) := by decide +kernel
theorem dX0_tightest_81 : decode cX0_tightest 81 = .ok (.iaload, 1) := by decide +kernel
theorem dX0_tightest_82 : decode cX0_tightest 82 = .ok (.istore 4, 2) := by decide +kernel
theorem dX0_tightest_84 : decode cX0_tightest 84 = .ok (.iinc 5 1, 3) := by decide +kernel
theorem dX0_tightest_87 : decode cX0_tightest 87 = .ok (.goto (-77), 3) := by decide +kernel
theorem dX0_tightest_90 : decode cX0_tightest 90 = .ok (.iload_n 2, 1) := by decide +kernel
theorem dX0_tightest_91 : decode cX0_tightest 91 = .ok (.ireturn, 1) := by decide +kernel
theorem dX0_give_0 : decode cX0_give 0 = .ok (.aload_n 0, 1) := by decide +kernel
theorem dX0_give_1 : decode cX0_give 1 = .ok (.iload_n 1, 1) := by decide +kernel
theorem dX0_give_2 : decode cX0_give 2 = .ok (.iload_n 2, 1) := by decide +kernel
theorem dX0_give_3 : decode cX0_give 3 = .ok (.invokevirtual 106, 3) := by decide +kernel
theorem dX0_give_6 : decode cX0_give 6 = .ok (.iconst 0, 1) := by decide +kernel
theorem dX0_give_7 : decode cX0_give 7 = .ok (.istore_n 3, 1) := by decide +kernel
theorem dX0_give_8 : decode cX0_give 8 = .ok (.iload_n 3, 1) := by decide +kernel
theorem dX0_give_9 : decode cX0_give 9 = .ok (.aload_n 0, 1) := by decide +kernel
theorem dX0_give_10 : decode cX0_give 10 = .ok (.getfield 40, 3) := by decide +kernel
theorem dX0_give_13 : decode cX0_give 13 = .ok (.if_icmp .ge 30, 3) := by decide +kernel
theorem dX0_give_16 : decode cX0_give 16 = .ok (.aload_n 0, 1) := by decide +kernel
theorem dX0_give_17 : decode cX0_give 17 = .ok (.getfield 33, 3) := by decide +kernel
theorem dX0_give_20 : decode cX0_give 20 = .ok (.iload_n 3, 1) := by decide +kernel
theorem dX0_give_21 : decode cX0_give 21 = .ok (.dup2, 1) := by decide +kernel
theorem dX0_give_22 : decode cX0_give 22 = .ok (.iaload, 1) := by decide +kernel
theorem dX0_give_23 : decode cX0_give 23 = .ok (.iload_n 2, 1) := by decide +kernel
theorem dX0_give_24 : decode cX0_give 24 = .ok (.aload_n 0, 1) := by decide +kernel
theorem dX0_give_25 : decode cX0_give 25 = .ok (.iload_n 1, 1) := by decide +kernel
theorem dX0_give_26 : decode cX0_give 26 = .ok (.iload_n 3, 1) := by decide +kernel
theorem dX0_give_27 : decode cX0_give 27 = .ok (.invokevirtual 72, 3) := by decide +kernel
theorem dX0_give_30 : decode cX0_give 30 = .ok (.invokestatic 75, 3) := by decide +kernel
theorem dX0_give_33 : decode cX0_give 33 = .ok (.iconst (-1), 1) := by decide +kernel
theorem dX0_give_34 : decode cX0_give 34 = .ok (.ixor, 1) := by decide +kernel
theorem dX0_give_35 : decode cX0_give 35 = .ok (.iand, 1) := by decide +kernel
theorem dX0_give_36 : decode cX0_give 36 = .ok (.iastore, 1) := by decide +kernel
theorem dX0_give_37 : decode cX0_give 37 = .ok (.iinc 3 1, 3) := by decide +kernel
theorem dX0_give_40 : decode cX0_give 40 = .ok (.goto (-32), 3) := by decide +kernel
theorem dX0_give_43 : decode cX0_give 43 = .ok (.return_, 1) := by decide +kernel
theorem dX0_swapChain_0 : decode cX0_swapChain 0 = .ok (.aload_n 0, 1) := by decide +kernel
theorem dX0_swapChain_1 : decode cX0_swapChain 1 = .ok (.iload_n 1, 1) := by decide +kernel
theorem dX0_swapChain_2 : decode cX0_swapChain 2 = .ok (.invokevirtual 53, 3) := by decide +kernel
theorem dX0_swapChain_5 : decode cX0_swapChain 5 = .ok (.iload_n 2, 1) := by decide +kernel
theorem dX0_swapChain_6 : decode cX0_swapChain 6 = .ok (.iadd, 1) := by decide +kernel
theorem dX0_swapChain_7 : decode cX0_swapChain 7 = .ok (.istore_n 3, 1) := by decide +kernel
theorem dX0_swapChain_8 : decode cX0_swapChain 8 = .ok (.aload_n 0, 1) := by decide +kernel
theorem dX0_swapChain_9 : decode cX0_swapChain 9 = .ok (.iload_n 1, 1) := by decide +kernel
theorem dX0_swapChain_10 : decode cX0_swapChain 10 = .ok (.iload_n 3, 1) := by decide +kernel
theorem dX0_swapChain_11 : decode cX0_swapChain 11 = .ok (.invokevirtual 109, 3) := by decide +kernel
theorem dX0_swapChain_14 : decode cX0_swapChain 14 = .ok (.istore 4, 2) := by decide +kernel
theorem dX0_swapChain_16 : decode cX0_swapChain 16 = .ok (.iload 4, 2) := by decide +kernel
theorem dX0_swapChain_18 : decode cX0_swapChain 18 = .ok (.aload_n 0, 1) := by decide +kernel
theorem dX0_swapChain_19 : decode cX0_swapChain 19 = .ok (.getfield 36, 3) := by decide +kernel
theorem dX0_swapChain_22 : decode cX0_swapChain 22 = .ok (.iand, 1) := by decide +kernel
theorem dX0_swapChain_23 : decode cX0_swapChain 23 = .ok (.ifCond .eq 6, 3) := by decide +kernel
theorem dX0_swapChain_26 : decode cX0_swapChain 26 = .ok (.bipush (-5), 2) := by decide +kernel
theorem dX0_swapChain_28 : decode cX0_swapChain 28 = .ok (.ireturn, 1) := by decide +kernel
theorem dX0_swapChain_29 : decode cX0_swapChain 29 = .ok (.aload_n 0, 1) := by decide +kernel
theorem dX0_swapChain_30 : decode cX0_swapChain 30 = .ok (.invokevirtual 112, 3) := by decide +kernel
theorem dX0_swapChain_33 : decode cX0_swapChain 33 = .ok (.istore 5, 2) := by decide +kernel
theorem dX0_swapChain_35 : decode cX0_swapChain 35 = .ok (.aload_n 0, 1) := by decide +kernel
theorem dX0_swapChain_36 : decode cX0_swapChain 36 = .ok (.iload 4, 2) := by decide +kernel
theorem dX0_swapChain_38 : decode cX0_swapChain 38 = .ok (.iload_n 3, 1) := by decide +kernel
theorem dX0_swapChain_39 : decode cX0_swapChain 39 = .ok (.invokevirtual 115, 3) := by decide +kernel
theorem dX0_swapChain_42 : decode cX0_swapChain 42 = .ok (.aload_n 0, 1) := by decide +kernel
theorem dX0_swapChain_43 : decode cX0_swapChain 43 = .ok (.invokevirtual 112, 3) := by decide +kernel
theorem dX0_swapChain_46 : decode cX0_swapChain 46 = .ok (.iload 5, 2) := by decide +kernel
theorem dX0_swapChain_48 : decode cX0_swapChain 48 = .ok (.if_icmp .le 13, 3) := by decide +kernel
theorem dX0_swapChain_51 : decode cX0_swapChain 51 = .ok (.aload_n 0, 1) := by decide +kernel
theorem dX0_swapChain_52 : decode cX0_swapChain 52 = .ok (.iload 4, 2) := by decide +kernel
theorem dX0_swapChain_54 : decode cX0_swapChain 54 = .ok (.iload_n 3, 1) := by decide +kernel
theorem dX0_swapChain_55 : decode cX0_swapChain 55 = .ok (.invokevirtual 115, 3) := by decide +kernel
theorem dX0_swapChain_58 : decode cX0_swapChain 58 = .ok (.bipush (-6), 2) := by decide +kernel
theorem dX0_swapChain_60 : decode cX0_swapChain 60 = .ok (.ireturn, 1) := by decide +kernel
theorem dX0_swapChain_61 : decode cX0_swapChain 61 = .ok (.iload 4, 2) := by decide +kernel
theorem dX0_swapChain_63 : decode cX0_swapChain 63 = .ok (.invokestatic 101, 3) := by decide +kernel
theorem dX0_swapChain_66 : decode cX0_swapChain 66 = .ok (.ireturn, 1) := by decide +kernel
theorem dX0_chainOf_0 : decode cX0_chainOf 0 = .ok (.iconst 1, 1) := by decide +kernel
theorem dX0_chainOf_1 : decode cX0_chainOf 1 = .ok (.iload_n 1, 1) := by decide +kernel
theorem dX0_chainOf_2 : decode cX0_chainOf 2 = .ok (.ishl, 1) := by decide +kernel
theorem dX0_chainOf_3 : decode cX0_chainOf 3 = .ok (.istore_n 3, 1) := by decide +kernel
theorem dX0_chainOf_4 : decode cX0_chainOf 4 = .ok (.iconst 0, 1) := by decide +kernel
theorem dX0_chainOf_5 : decode cX0_chainOf 5 = .ok (.istore 4, 2) := by decide +kernel
theorem dX0_chainOf_7 : decode cX0_chainOf 7 = .ok (.iload 4, 2) := by decide +kernel
theorem dX0_chainOf_9 : decode cX0_chainOf 9 = .ok (.aload_n 0, 1) := by decide +kernel
theorem dX0_chainOf_10 : decode cX0_chainOf 10 = .ok (.getfield 40, 3) := by decide +kernel
theorem dX0_chainOf_13 : decode cX0_chainOf 13 = .ok (.if_icmp .ge 55, 3) := by decide +kernel
theorem dX0_chainOf_16 : decode cX0_chainOf 16 = .ok (.iconst 0, 1) := by decide +kernel
theorem dX0_chainOf_17 : decode cX0_chainOf 17 = .ok (.istore 5, 2) := by decide +kernel
theorem dX0_chainOf_19 : decode cX0_chainOf 19 = .ok (.iload 5, 2) := by decide +kernel
theorem dX0_chainOf_21 : decode cX0_chainOf 21 = .ok (.aload_n 0, 1) := by decide +kernel
theorem dX0_chainOf_22 : decode cX0_chainOf 22 = .ok (.getfield 40, 3) := by decide +kernel
theorem dX0_chainOf_25 : decode cX0_chainOf 25 = .ok (.if_icmp .ge 37, 3) := by decide +kernel
theorem dX0_chainOf_28 : decode cX0_chainOf 28 = .ok (.iload_n 3, 1) := by decide +kernel
theorem dX0_chainOf_29 : decode cX0_chainOf 29 = .ok (.iload 5, 2) := by decide +kernel
theorem dX0_chainOf_31 : decode cX0_chainOf 31 = .ok (.ishr, 1) := by decide +kernel
theorem dX0_chainOf_32 : decode cX0_chainOf 32 = .ok (.iconst 1, 1) := by decide +kernel
theorem dX0_chainOf_33 : decode cX0_chainOf 33 = .ok (.iand, 1) := by decide +kernel
theorem dX0_chainOf_34 : decode cX0_chainOf 34 = .ok (.iconst 1, 1) := by decide +kernel
theorem dX0_chainOf_35 : decode cX0_chainOf 35 = .ok (.if_icmp .ne 21, 3) := by decide +kernel
theorem dX0_chainOf_38 : decode cX0_chainOf 38 = .ok (.iload_n 3, 1) := by decide +kernel
theorem dX0_chainOf_39 : decode cX0_chainOf 39 = .ok (.aload_n 0, 1) := by decide +kernel
theorem dX0_chainOf_40 : decode cX0_chainOf 40 = .ok (.iload 5, 2) := by decide +kernel
theorem dX0_chainOf_42 : decode cX0_chainOf 42 = .ok (.iload_n 2, 1) := by decide +kernel
theorem dX0_chainOf_43 : decode cX0_chainOf 43 = .ok (.aload_n 0, 1) := by decide +kernel
theorem dX0_chainOf_44 : decode cX0_chainOf 44 = .ok (.getfield 18, 3) := by decide +kernel
theorem dX0_chainOf_47 : decode cX0_chainOf 47 = .ok (.iload 5, 2) := by decide +kernel
theorem dX0_chainOf_49 : decode cX0_chainOf 49 = .ok (.iaload, 1) := by decide +kernel
theorem dX0_chainOf_50 : decode cX0_chainOf 50 = .ok (.isub, 1) := by decide +kernel
theorem dX0_chainOf_51 : decode cX0_chainOf 51 = .ok (.invokevirtual 118, 3) := by decide +kernel
theorem dX0_chainOf_54 : decode cX0_chainOf 54 = .ok (.ior, 1) := by decide +kernel
theorem dX0_chainOf_55 : decode cX0_chainOf 55 = .ok (.istore_n 3, 1) := by decide +kernel
theorem dX0_chainOf_56 : decode cX0_chainOf 56 = .ok (.iinc 5 1, 3) := by decide +kernel
theorem dX0_chainOf_59 : decode cX0_chainOf 59 = .ok (.goto (-40), 3) := by decide +kernel
theorem dX0_chainOf_62 : decode cX0_chainOf 62 = .ok (.iinc 4 1, 3) := by decide +kernel
theorem dX0_chainOf_65 : decode cX0_chainOf 65 = .ok (.goto (-58), 3) := by decide +kernel
theorem dX0_chainOf_68 : decode cX0_chainOf 68 = .ok (.iload_n 3, 1) := by decide +kernel
theorem dX0_chainOf_69 : decode cX0_chainOf 69 = .ok (.ireturn, 1) := by decide +kernel
theorem dX0_neighboursOn_0 : decode cX0_neighboursOn 0 = .ok (.iconst 0, 1) := by decide +kernel
theorem dX0_neighboursOn_1 : decode cX0_neighboursOn 1 = .ok (.istore_n 3, 1) := by decide +kernel
theorem dX0_neighboursOn_2 : decode cX0_neighboursOn 2 = .ok (.iconst 0, 1) := by decide +kernel
theorem dX0_neighboursOn_3 : decode cX0_neighboursOn 3 = .ok (.istore 4, 2) := by decide +kernel
theorem dX0_neighboursOn_5 : decode cX0_neighboursOn 5 = .ok (.iload 4, 2) := by decide +kernel
theorem dX0_neighboursOn_7 : decode cX0_neighboursOn 7 = .ok (.aload_n 0, 1) := by decide +kernel
theorem dX0_neighboursOn_8 : decode cX0_neighboursOn 8 = .ok (.getfield 40, 3) := by decide +kernel
theorem dX0_neighboursOn_11 : decode cX0_neighboursOn 11 = .ok (.if_icmp .ge 37, 3) := by decide +kernel
theorem dX0_neighboursOn_14 : decode cX0_neighboursOn 14 = .ok (.aload_n 0, 1) := by decide +kernel
theorem dX0_neighboursOn_15 : decode cX0_neighboursOn 15 = .ok (.getfield 18, 3) := by decide +kernel
theorem dX0_neighboursOn_18 : decode cX0_neighboursOn 18 = .ok (.iload 4, 2) := by decide +kernel
theorem dX0_neighboursOn_20 : decode cX0_neighboursOn 20 = .ok (.iaload, 1) := by decide +kernel
theorem dX0_neighboursOn_21 : decode cX0_neighboursOn 21 = .ok (.iload_n 2, 1) := by decide +kernel
theorem dX0_neighboursOn_22 : decode cX0_neighboursOn 22 = .ok (.if_icmp .ne 20, 3) := by decide +kernel
theorem dX0_neighboursOn_25 : decode cX0_neighboursOn 25 = .ok (.aload_n 0, 1) := by decide +kernel
theorem dX0_neighboursOn_26 : decode cX0_neighboursOn 26 = .ok (.iload_n 1, 1) := by decide +kernel
theorem dX0_neighboursOn_27 : decode cX0_neighboursOn 27 = .ok (.iload 4, 2) := by decide +kernel
theorem dX0_neighboursOn_29 : decode cX0_neighboursOn 29 = .ok (.invokevirtual 72, 3) := by decide +kernel
theorem dX0_neighboursOn_32 : decode cX0_neighboursOn 32 = .ok (.ifCond .le 10, 3) := by decide +kernel
theorem dX0_neighboursOn_35 : decode cX0_neighboursOn 35 = .ok (.iload_n 3, 1) := by decide +kernel
theorem dX0_neighboursOn_36 : decode cX0_neighboursOn 36 = .ok (.iconst 1, 1) := by decide +kernel
theorem dX0_neighboursOn_37 : decode cX0_neighboursOn 37 = .ok (.iload 4, 2) := by decide +kernel
theorem dX0_neighboursOn_39 : decode cX0_neighboursOn 39 = .ok (.ishl, 1) := by decide +kernel
theorem dX0_neighboursOn_40 : decode cX0_neighboursOn 40 = .ok (.ior, 1) := by decide +kernel
theorem dX0_neighboursOn_41 : decode cX0_neighboursOn 41 = .ok (.istore_n 3, 1) := by decide +kernel
theorem dX0_neighboursOn_42 : decode cX0_neighboursOn 42 = .ok (.iinc 4 1, 3) := by decide +kernel
theorem dX0_neighboursOn_45 : decode cX0_neighboursOn 45 = .ok (.goto (-40), 3) := by decide +kernel
theorem dX0_neighboursOn_48 : decode cX0_neighboursOn 48 = .ok (.iload_n 3, 1) := by decide +kernel
theorem dX0_neighboursOn_49 : decode cX0_neighboursOn 49 = .ok (.ireturn, 1) := by decide +kernel
theorem dX0_swap_0 : decode cX0_swap 0 = .ok (.iconst 0, 1) := by decide +kernel
theorem dX0_swap_1 : decode cX0_swap 1 = .ok (.istore_n 3, 1) := by decide +kernel
theorem dX0_swap_2 : decode cX0_swap 2 = .ok (.iload_n 3, 1) := by decide +kernel
theorem dX0_swap_3 : decode cX0_swap 3 = .ok (.aload_n 0, 1) := by decide +kernel
theorem dX0_swap_4 : decode cX0_swap 4 = .ok (.getfield 40, 3) := by decide +kernel
theorem dX0_swap_7 : decode cX0_swap 7 = .ok (.if_icmp .ge 32, 3) := by decide +kernel
theorem dX0_swap_10 : decode cX0_swap 10 = .ok (.iload_n 1, 1) := by decide +kernel
theorem dX0_swap_11 : decode cX0_swap 11 = .ok (.iload_n 3, 1) := by decide +kernel
theorem dX0_swap_12 : decode cX0_swap 12 = .ok (.ishr, 1) := by decide +kernel
theorem dX0_swap_13 : decode cX0_swap 13 = .ok (.iconst 1, 1) := by decide +kernel
theorem dX0_swap_14 : decode cX0_swap 14 = .ok (.iand, 1) := by decide +kernel
theorem dX0_swap_15 : decode cX0_swap 15 = .ok (.iconst 1, 1) := by decide +kernel
theorem dX0_swap_16 : decode cX0_swap 16 = .ok (.if_icmp .ne 17, 3) := by decide +kernel
theorem dX0_swap_19 : decode cX0_swap 19 = .ok (.aload_n 0, 1) := by decide +kernel
theorem dX0_swap_20 : decode cX0_swap 20 = .ok (.getfield 18, 3) := by decide +kernel
theorem dX0_swap_23 : decode cX0_swap 23 = .ok (.iload_n 3, 1) := by decide +kernel
theorem dX0_swap_24 : decode cX0_swap 24 = .ok (.iload_n 2, 1) := by decide +kernel
theorem dX0_swap_25 : decode cX0_swap 25 = .ok (.aload_n 0, 1) := by decide +kernel
theorem dX0_swap_26 : decode cX0_swap 26 = .ok (.getfield 18, 3) := by decide +kernel
theorem dX0_swap_29 : decode cX0_swap 29 = .ok (.iload_n 3, 1) := by decide +kernel
theorem dX0_swap_30 : decode cX0_swap 30 = .ok (.iaload, 1) := by decide +kernel
theorem dX0_swap_31 : decode cX0_swap 31 = .ok (.isub, 1) := by decide +kernel
theorem dX0_swap_32 : decode cX0_swap 32 = .ok (.iastore, 1) := by decide +kernel
theorem dX0_swap_33 : decode cX0_swap 33 = .ok (.iinc 3 1, 3) := by decide +kernel
theorem dX0_swap_36 : decode cX0_swap 36 = .ok (.goto (-34), 3) := by decide +kernel
theorem dX0_swap_39 : decode cX0_swap 39 = .ok (.return_, 1) := by decide +kernel
theorem dX1_init_0 : decode cX1_init 0 = .ok (.aload_n 0, 1) := by decide +kernel
theorem dX1_init_1 : decode cX1_init 1 = .ok (.invokespecial 3, 3) := by decide +kernel
theorem dX1_init_4 : decode cX1_init 4 = .ok (.aload_n 0, 1) := by decide +kernel
theorem dX1_init_5 : decode cX1_init 5 = .ok (.bipush 8, 2) := by decide +kernel
theorem dX1_init_7 : decode cX1_init 7 = .ok (.newarray .int, 2) := by decide +kernel
theorem dX1_init_9 : decode cX1_init 9 = .ok (.putfield 9, 3) := by decide +kernel
theorem dX1_init_12 : decode cX1_init 12 = .ok (.aload_n 0, 1) := by decide +kernel
theorem dX1_init_13 : decode cX1_init 13 = .ok (.bipush 8, 2) := by decide +kernel
theorem dX1_init_15 : decode cX1_init 15 = .ok (.newarray .int, 2) := by decide +kernel
theorem dX1_init_17 : decode cX1_init 17 = .ok (.putfield 15, 3) := by decide +kernel
theorem dX1_init_20 : decode cX1_init 20 = .ok (.aload_n 0, 1) := by decide +kernel
theorem dX1_init_21 : decode cX1_init 21 = .ok (.iconst 0, 1) := by decide +kernel
theorem dX1_init_22 : decode cX1_init 22 = .ok (.putfield 18, 3) := by decide +kernel
theorem dX1_init_25 : decode cX1_init 25 = .ok (.aload_n 0, 1) := by decide +kernel
theorem dX1_init_26 : decode cX1_init 26 = .ok (.iload_n 1, 1) := by decide +kernel
theorem dX1_init_27 : decode cX1_init 27 = .ok (.bipush 8, 2) := by decide +kernel
theorem dX1_init_29 : decode cX1_init 29 = .ok (.invokestatic 22, 3) := by decide +kernel
theorem dX1_init_32 : decode cX1_init 32 = .ok (.putfield 28, 3) := by decide +kernel
theorem dX1_init_35 : decode cX1_init 35 = .ok (.return_, 1) := by decide +kernel
theorem dX1_size_0 : decode cX1_size 0 = .ok (.aload_n 0, 1) := by decide +kernel
theorem dX1_size_1 : decode cX1_size 1 = .ok (.getfield 18, 3) := by decide +kernel
theorem dX1_size_4 : decode cX1_size 4 = .ok (.ireturn, 1) := by decide +kernel
theorem dX1_clear_0 : decode cX1_clear 0 = .ok (.aload_n 0, 1) := by decide +kernel
theorem dX1_clear_1 : decode cX1_clear 1 = .ok (.iconst 0, 1) := by decide +kernel
theorem dX1_clear_2 : decode cX1_clear 2 = .ok (.putfield 18, 3) := by decide +kernel
theorem dX1_clear_5 : decode cX1_clear 5 = .ok (.aload_n 0, 1) := by decide +kernel
theorem dX1_clear_6 : decode cX1_clear 6 = .ok (.getfield 18, 3) := by decide +kernel
theorem dX1_clear_9 : decode cX1_clear 9 = .ok (.ireturn, 1) := by decide +kernel
theorem dX1_append_0 : decode cX1_append 0 = .ok (.aload_n 0, 1) := by decide +kernel
theorem dX1_append_1 : decode cX1_append 1 = .ok (.getfield 18, 3) := by decide +kernel
theorem dX1_append_4 : decode cX1_append 4 = .ok (.aload_n 0, 1) := by decide +kernel
theorem dX1_append_5 : decode cX1_append 5 = .ok (.getfield 28, 3) := by decide +kernel
theorem dX1_append_8 : decode cX1_append 8 = .ok (.if_icmp .lt 6, 3) := by decide +kernel
theorem dX1_append_11 : decode cX1_append 11 = .ok (.bipush (-4), 2) := by decide +kernel
theorem dX1_append_13 : decode cX1_append 13 = .ok (.ireturn, 1) := by decide +kernel
theorem dX1_append_14 : decode cX1_append 14 = .ok (.aload_n 0, 1) := by decide +kernel
theorem dX1_append_15 : decode cX1_append 15 = .ok (.getfield 9, 3) := by decide +kernel
theorem dX1_append_18 : decode cX1_append 18 = .ok (.aload_n 0, 1) := by decide +kernel
theorem dX1_append_19 : decode cX1_append 19 = .ok (.getfield 18, 3) := by decide +kernel
theorem dX1_append_22 : decode cX1_append 22 = .ok (.iload_n 1, 1) := by decide +kernel
theorem dX1_append_23 : decode cX1_append 23 = .ok (.iastore, 1) := by decide +kernel
theorem dX1_append_24 : decode cX1_append 24 = .ok (.aload_n 0, 1) := by decide +kernel
theorem dX1_append_25 : decode cX1_append 25 = .ok (.getfield 15, 3) := by decide +kernel
theorem dX1_append_28 : decode cX1_append 28 = .ok (.aload_n 0, 1) := by decide +kernel
theorem dX1_append_29 : decode cX1_append 29 = .ok (.getfield 18, 3) := by decide +kernel
theorem dX1_append_32 : decode cX1_append 32 = .ok (.iload_n 2, 1) := by decide +kernel
theorem dX1_append_33 : decode cX1_append 33 = .ok (.iastore, 1) := by decide +kernel
theorem dX1_append_34 : decode cX1_append 34 = .ok (.aload_n 0, 1) := by decide +kernel
theorem dX1_append_35 : decode cX1_append 35 = .ok (.dup, 1) := by decide +kernel
theorem dX1_append_36 : decode cX1_append 36 = .ok (.getfield 18, 3) := by decide +kernel
theorem dX1_append_39 : decode cX1_append 39 = .ok (.iconst 1, 1) := by decide +kernel
theorem dX1_append_40 : decode cX1_append 40 = .ok (.iadd, 1) := by decide +kernel
theorem dX1_append_41 : decode cX1_append 41 = .ok (.putfield 18, 3) := by decide +kernel
theorem dX1_append_44 : decode cX1_append 44 = .ok (.aload_n 0, 1) := by decide +kernel
theorem dX1_append_45 : decode cX1_append 45 = .ok (.getfield 18, 3) := by decide +kernel
theorem dX1_append_48 : decode cX1_append 48 = .ok (.ireturn, 1) := by decide +kernel
theorem dX1_first_0 : decode cX1_first 0 = .ok (.iload_n 1, 1) := by decide +kernel
theorem dX1_first_1 : decode cX1_first 1 = .ok (.ifCond .lt 20, 3) := by decide +kernel
theorem dX1_first_4 : decode cX1_first 4 = .ok (.iload_n 1, 1) := by decide +kernel
theorem dX1_first_5 : decode cX1_first 5 = .ok (.aload_n 0, 1) := by decide +kernel
theorem dX1_first_6 : decode cX1_first 6 = .ok (.getfield 18, 3) := by decide +kernel
theorem dX1_first_9 : decode cX1_first 9 = .ok (.if_icmp .ge 12, 3) := by decide +kernel
theorem dX1_first_12 : decode cX1_first 12 = .ok (.aload_n 0, 1) := by decide +kernel
theorem dX1_first_13 : decode cX1_first 13 = .ok (.getfield 9, 3) := by decide +kernel
theorem dX1_first_16 : decode cX1_first 16 = .ok (.iload_n 1, 1) := by decide +kernel
theorem dX1_first_17 : decode cX1_first 17 = .ok (.iaload, 1) := by decide +kernel
theorem dX1_first_18 : decode cX1_first 18 = .ok (.goto 4, 3) := by decide +kernel
theorem dX1_first_21 : decode cX1_first 21 = .ok (.iconst (-1), 1) := by decide +kernel
theorem dX1_first_22 : decode cX1_first 22 = .ok (.ireturn, 1) := by decide +kernel
theorem dX1_second_0 : decode cX1_second 0 = .ok (.iload_n 1, 1) := by decide +kernel
theorem dX1_second_1 : decode cX1_second 1 = .ok (.ifCond .lt 20, 3) := by decide +kernel
theorem dX1_second_4 : decode cX1_second 4 = .ok (.iload_n 1, 1) := by decide +kernel
theorem dX1_second_5 : decode cX1_second 5 = .ok (.aload_n 0, 1) := by decide +kernel
theorem dX1_second_6 : decode cX1_second 6 = .ok (.getfield 18, 3) := by decide +kernel
theorem dX1_second_9 : decode cX1_second 9 = .ok (.if_icmp .ge 12, 3) := by decide +kernel
theorem dX1_second_12 : decode cX1_second 12 = .ok (.aload_n 0, 1) := by decide +kernel
theorem dX1_second_13 : decode cX1_second 13 = .ok (.getfield 15, 3) := by decide +kernel
theorem dX1_second_16 : decode cX1_second 16 = .ok (.iload_n 1, 1) := by decide +kernel
theorem dX1_second_17 : decode cX1_second 17 = .ok (.iaload, 1) := by decide +kernel
theorem dX1_second_18 : decode cX1_second 18 = .ok (.goto 4, 3) := by decide +kernel
theorem dX1_second_21 : decode cX1_second 21 = .ok (.iconst (-1), 1) := by decide +kernel
theorem dX1_second_22 : decode cX1_second 22 = .ok (.ireturn, 1) := by decide +kernel
theorem dX1_copyFrom_0 : decode cX1_copyFrom 0 = .ok (.aload_n 1, 1) := by decide +kernel
theorem dX1_copyFrom_1 : decode cX1_copyFrom 1 = .ok (.getfield 9, 3) := by decide +kernel
theorem dX1_copyFrom_4 : decode cX1_copyFrom 4 = .ok (.iconst 0, 1) := by decide +kernel
theorem dX1_copyFrom_5 : decode cX1_copyFrom 5 = .ok (.aload_n 0, 1) := by decide +kernel
theorem dX1_copyFrom_6 : decode cX1_copyFrom 6 = .ok (.getfield 9, 3) := by decide +kernel
theorem dX1_copyFrom_9 : decode cX1_copyFrom 9 = .ok (.iconst 0, 1) := by decide +kernel
theorem dX1_copyFrom_10 : decode cX1_copyFrom 10 = .ok (.bipush 8, 2) := by decide +kernel
theorem dX1_copyFrom_12 : decode cX1_copyFrom 12 = .ok (.invokestatic 31, 3) := by decide +kernel
theorem dX1_copyFrom_15 : decode cX1_copyFrom 15 = .ok (.aload_n 1, 1) := by decide +kernel
theorem dX1_copyFrom_16 : decode cX1_copyFrom 16 = .ok (.getfield 15, 3) := by decide +kernel
theorem dX1_copyFrom_19 : decode cX1_copyFrom 19 = .ok (.iconst 0, 1) := by decide +kernel
theorem dX1_copyFrom_20 : decode cX1_copyFrom 20 = .ok (.aload_n 0, 1) := by decide +kernel
theorem dX1_copyFrom_21 : decode cX1_copyFrom 21 = .ok (.getfield 15, 3) := by decide +kernel
theorem dX1_copyFrom_24 : decode cX1_copyFrom 24 = .ok (.iconst 0, 1) := by decide +kernel
theorem dX1_copyFrom_25 : decode cX1_copyFrom 25 = .ok (.bipush 8, 2) := by decide +kernel
theorem dX1_copyFrom_27 : decode cX1_copyFrom 27 = .ok (.invokestatic 31, 3) := by decide +kernel
theorem dX1_copyFrom_30 : decode cX1_copyFrom 30 = .ok (.aload_n 0, 1) := by decide +kernel
theorem dX1_copyFrom_31 : decode cX1_copyFrom 31 = .ok (.aload_n 1, 1) := by decide +kernel
theorem dX1_copyFrom_32 : decode cX1_copyFrom 32 = .ok (.getfield 18, 3) := by decide +kernel
theorem dX1_copyFrom_35 : decode cX1_copyFrom 35 = .ok (.putfield 18, 3) := by decide +kernel
theorem dX1_copyFrom_38 : decode cX1_copyFrom 38 = .ok (.return_, 1) := by decide +kernel
theorem dX2_init_0 : decode cX2_init 0 = .ok (.aload_n 0, 1) := by decide +kernel
theorem dX2_init_1 : decode cX2_init 1 = .ok (.invokespecial 3, 3) := by decide +kernel
theorem dX2_init_4 : decode cX2_init 4 = .ok (.aload_n 0, 1) := by decide +kernel
theorem dX2_init_5 : decode cX2_init 5 = .ok (.new 9, 3) := by decide +kernel
theorem dX2_init_8 : decode cX2_init 8 = .ok (.dup, 1) := by decide +kernel
theorem dX2_init_9 : decode cX2_init 9 = .ok (.invokespecial 11, 3) := by decide +kernel
theorem dX2_init_12 : decode cX2_init 12 = .ok (.putfield 12, 3) := by decide +kernel
theorem dX2_init_15 : decode cX2_init 15 = .ok (.aload_n 0, 1) := by decide +kernel
theorem dX2_init_16 : decode cX2_init 16 = .ok (.new 18, 3) := by decide +kernel
theorem dX2_init_19 : decode cX2_init 19 = .ok (.dup, 1) := by decide +kernel
theorem dX2_init_20 : decode cX2_init 20 = .ok (.iconst 5, 1) := by decide +kernel
theorem dX2_init_21 : decode cX2_init 21 = .ok (.invokespecial 20, 3) := by decide +kernel
theorem dX2_init_24 : decode cX2_init 24 = .ok (.putfield 23, 3) := by decide +kernel
theorem dX2_init_27 : decode cX2_init 27 = .ok (.aload_n 0, 1) := by decide +kernel
theorem dX2_init_28 : decode cX2_init 28 = .ok (.new 18, 3) := by decide +kernel
theorem dX2_init_31 : decode cX2_init 31 = .ok (.dup, 1) := by decide +kernel
theorem dX2_init_32 : decode cX2_init 32 = .ok (.bipush 8, 2) := by decide +kernel
theorem dX2_init_34 : decode cX2_init 34 = .ok (.invokespecial 20, 3) := by decide +kernel
theorem dX2_init_37 : decode cX2_init 37 = .ok (.putfield 27, 3) := by decide +kernel
theorem dX2_init_40 : decode cX2_init 40 = .ok (.aload_n 0, 1) := by decide +kernel
theorem dX2_init_41 : decode cX2_init 41 = .ok (.new 18, 3) := by decide +kernel
theorem dX2_init_44 : decode cX2_init 44 = .ok (.dup, 1) := by decide +kernel
theorem dX2_init_45 : decode cX2_init 45 = .ok (.bipush 8, 2) := by decide +kernel
theorem dX2_init_47 : decode cX2_init 47 = .ok (.invokespecial 20, 3) := by decide +kernel
theorem dX2_init_50 : decode cX2_init 50 = .ok (.putfield 30, 3) := by decide +kernel
theorem dX2_init_53 : decode cX2_init 53 = .ok (.return_, 1) := by decide +kernel
theorem dX2_copyFrom_0 : decode cX2_copyFrom 0 = .ok (.aload_n 0, 1) := by decide +kernel
theorem dX2_copyFrom_1 : decode cX2_copyFrom 1 = .ok (.getfield 12, 3) := by decide +kernel
theorem dX2_copyFrom_4 : decode cX2_copyFrom 4 = .ok (.aload_n 1, 1) := by decide +kernel
theorem dX2_copyFrom_5 : decode cX2_copyFrom 5 = .ok (.getfield 12, 3) := by decide +kernel
theorem dX2_copyFrom_8 : decode cX2_copyFrom 8 = .ok (.invokevirtual 33, 3) := by decide +kernel
theorem dX2_copyFrom_11 : decode cX2_copyFrom 11 = .ok (.aload_n 0, 1) := by decide +kernel
theorem dX2_copyFrom_12 : decode cX2_copyFrom 12 = .ok (.getfield 23, 3) := by decide +kernel
theorem dX2_copyFrom_15 : decode cX2_copyFrom 15 = .ok (.aload_n 1, 1) := by decide +kernel
theorem dX2_copyFrom_16 : decode cX2_copyFrom 16 = .ok (.getfield 23, 3) := by decide +kernel
theorem dX2_copyFrom_19 : decode cX2_copyFrom 19 = .ok (.invokevirtual 37, 3) := by decide +kernel
theorem dX2_copyFrom_22 : decode cX2_copyFrom 22 = .ok (.aload_n 0, 1) := by decide +kernel
theorem dX2_copyFrom_23 : decode cX2_copyFrom 23 = .ok (.getfield 27, 3) := by decide +kernel
theorem dX2_copyFrom_26 : decode cX2_copyFrom 26 = .ok (.aload_n 1, 1) := by decide +kernel
theorem dX2_copyFrom_27 : decode cX2_copyFrom 27 = .ok (.getfield 27, 3) := by decide +kernel
theorem dX2_copyFrom_30 : decode cX2_copyFrom 30 = .ok (.invokevirtual 37, 3) := by decide +kernel
theorem dX2_copyFrom_33 : decode cX2_copyFrom 33 = .ok (.aload_n 0, 1) := by decide +kernel
theorem dX2_copyFrom_34 : decode cX2_copyFrom 34 = .ok (.getfield 30, 3) := by decide +kernel
theorem dX2_copyFrom_37 : decode cX2_copyFrom 37 = .ok (.aload_n 1, 1) := by decide +kernel
theorem dX2_copyFrom_38 : decode cX2_copyFrom 38 = .ok (.getfield 30, 3) := by decide +kernel
theorem dX2_copyFrom_41 : decode cX2_copyFrom 41 = .ok (.invokevirtual 37, 3) := by decide +kernel
theorem dX2_copyFrom_44 : decode cX2_copyFrom 44 = .ok (.return_, 1) := by decide +kernel
theorem dX3_init_0 : decode cX3_init 0 = .ok (.aload_n 0, 1) := by decide +kernel
theorem dX3_init_1 : decode cX3_init 1 = .ok (.invokespecial 3, 3) := by decide +kernel
theorem dX3_init_4 : decode cX3_init 4 = .ok (.aload_n 0, 1) := by decide +kernel
theorem dX3_init_5 : decode cX3_init 5 = .ok (.bipush 60, 2) := by decide +kernel
theorem dX3_init_7 : decode cX3_init 7 = .ok (.newarray .long, 2) := by decide +kernel
theorem dX3_init_9 : decode cX3_init 9 = .ok (.putfield 9, 3) := by decide +kernel
theorem dX3_init_12 : decode cX3_init 12 = .ok (.aload_n 0, 1) := by decide +kernel
theorem dX3_init_13 : decode cX3_init 13 = .ok (.iconst (-1), 1) := by decide +kernel
theorem dX3_init_14 : decode cX3_init 14 = .ok (.putfield 15, 3) := by decide +kernel
theorem dX3_init_17 : decode cX3_init 17 = .ok (.aload_n 0, 1) := by decide +kernel
theorem dX3_init_18 : decode cX3_init 18 = .ok (.iconst 0, 1) := by decide +kernel
theorem dX3_init_19 : decode cX3_init 19 = .ok (.putfield 19, 3) := by decide +kernel
theorem dX3_init_22 : decode cX3_init 22 = .ok (.return_, 1) := by decide +kernel
theorem dX3_isBlank_0 : decode cX3_isBlank 0 = .ok (.aload_n 0, 1) := by decide +kernel
theorem dX3_isBlank_1 : decode cX3_isBlank 1 = .ok (.getfield 15, 3) := by decide +kernel
theorem dX3_isBlank_4 : decode cX3_isBlank 4 = .ok (.iconst (-1), 1) := by decide +kernel
theorem dX3_isBlank_5 : decode cX3_isBlank 5 = .ok (.if_icmp .ne 7, 3) := by decide +kernel
theorem dX3_isBlank_8 : decode cX3_isBlank 8 = .ok (.iconst 1, 1) := by decide +kernel
theorem dX3_isBlank_9 : decode cX3_isBlank 9 = .ok (.goto 4, 3) := by decide +kernel
theorem dX3_isBlank_12 : decode cX3_isBlank 12 = .ok (.iconst 0, 1) := by decide +kernel
theorem dX3_isBlank_13 : decode cX3_isBlank 13 = .ok (.ireturn, 1) := by decide +kernel
theorem dX3_sort_0 : decode cX3_sort 0 = .ok (.aload_n 0, 1) := by decide +kernel
theorem dX3_sort_1 : decode cX3_sort 1 = .ok (.getfield 15, 3) := by decide +kernel
theorem dX3_sort_4 : decode cX3_sort 4 = .ok (.ireturn, 1) := by decide +kernel
theorem dX3_become_0 : decode cX3_become 0 = .ok (.aload_n 0, 1) := by decide +kernel
theorem dX3_become_1 : decode cX3_become 1 = .ok (.iload_n 1, 1) := by decide +kernel
theorem dX3_become_2 : decode cX3_become 2 = .ok (.putfield 15, 3) := by decide +kernel
theorem dX3_become_5 : decode cX3_become 5 = .ok (.aload_n 0, 1) := by decide +kernel
theorem dX3_become_6 : decode cX3_become 6 = .ok (.iconst 0, 1) := by decide +kernel
theorem dX3_become_7 : decode cX3_become 7 = .ok (.iload_n 2, 1) := by decide +kernel
theorem dX3_become_8 : decode cX3_become 8 = .ok (.bipush 60, 2) := by decide +kernel
theorem dX3_become_10 : decode cX3_become 10 = .ok (.invokestatic 22, 3) := by decide +kernel
theorem dX3_become_13 : decode cX3_become 13 = .ok (.invokestatic 28, 3) := by decide +kernel
theorem dX3_become_16 : decode cX3_become 16 = .ok (.putfield 19, 3) := by decide +kernel
theorem dX3_become_19 : decode cX3_become 19 = .ok (.iconst 0, 1) := by decide +kernel
theorem dX3_become_20 : decode cX3_become 20 = .ok (.istore_n 3, 1) := by decide +kernel
theorem dX3_become_21 : decode cX3_become 21 = .ok (.iload_n 3, 1) := by decide +kernel
theorem dX3_become_22 : decode cX3_become 22 = .ok (.bipush 60, 2) := by decide +kernel
theorem dX3_become_24 : decode cX3_become 24 = .ok (.if_icmp .ge 16, 3) := by decide +kernel
theorem dX3_become_27 : decode cX3_become 27 = .ok (.aload_n 0, 1) := by decide +kernel
theorem dX3_become_28 : decode cX3_become 28 = .ok (.getfield 9, 3) := by decide +kernel
theorem dX3_become_31 : decode cX3_become 31 = .ok (.iload_n 3, 1) := by decide +kernel
theorem dX3_become_32 : decode cX3_become 32 = .ok (.lconst 0, 1) := by decide +kernel
theorem dX3_become_33 : decode cX3_become 33 = .ok (.lastore, 1) := by decide +kernel
theorem dX3_become_34 : decode cX3_become 34 = .ok (.iinc 3 1, 3) := by decide +kernel
theorem dX3_become_37 : decode cX3_become 37 = .ok (.goto (-16), 3) := by decide +kernel
theorem dX3_become_40 : decode cX3_become 40 = .ok (.return_, 1) := by decide +kernel
theorem dX3_holds_0 : decode cX3_holds 0 = .ok (.iload_n 1, 1) := by decide +kernel
theorem dX3_holds_1 : decode cX3_holds 1 = .ok (.ifCond .lt 15, 3) := by decide +kernel
theorem dX3_holds_4 : decode cX3_holds 4 = .ok (.iload_n 1, 1) := by decide +kernel
theorem dX3_holds_5 : decode cX3_holds 5 = .ok (.aload_n 0, 1) := by decide +kernel
theorem dX3_holds_6 : decode cX3_holds 6 = .ok (.getfield 19, 3) := by decide +kernel
theorem dX3_holds_9 : decode cX3_holds 9 = .ok (.if_icmp .ge 7, 3) := by decide +kernel
theorem dX3_holds_12 : decode cX3_holds 12 = .ok (.iconst 1, 1) := by decide +kernel
theorem dX3_holds_13 : decode cX3_holds 13 = .ok (.goto 4, 3) := by decide +kernel
theorem dX3_holds_16 : decode cX3_holds 16 = .ok (.iconst 0, 1) := by decide +kernel
theorem dX3_holds_17 : decode cX3_holds 17 = .ok (.ireturn, 1) := by decide +kernel
theorem dX3_holdsRun_0 : decode cX3_holdsRun 0 = .ok (.iload_n 1, 1) := by decide +kernel
theorem dX3_holdsRun_1 : decode cX3_holdsRun 1 = .ok (.ifCond .lt 21, 3) := by decide +kernel
theorem dX3_holdsRun_4 : decode cX3_holdsRun 4 = .ok (.iload_n 2, 1) := by decide +kernel
theorem dX3_holdsRun_5 : decode cX3_holdsRun 5 = .ok (.ifCond .lt 17, 3) := by decide +kernel
theorem dX3_holdsRun_8 : decode cX3_holdsRun 8 = .ok (.iload_n 2, 1) := by decide +kernel
theorem dX3_holdsRun_9 : decode cX3_holdsRun 9 = .ok (.aload_n 0, 1) := by decide +kernel
theorem dX3_holdsRun_10 : decode cX3_holdsRun 10 = .ok (.getfield 19, 3) := by decide +kernel
theorem dX3_holdsRun_13 : decode cX3_holdsRun 13 = .ok (.iload_n 1, 1) := by decide +kernel
theorem dX3_holdsRun_14 : decode cX3_holdsRun 14 = .ok (.isub, 1) := by decide +kernel
theorem dX3_holdsRun_15 : decode cX3_holdsRun 15 = .ok (.if_icmp .gt 7, 3) := by decide +kernel
theorem dX3_holdsRun_18 : decode cX3_holdsRun 18 = .ok (.iconst 1, 1) := by decide +kernel
theorem dX3_holdsRun_19 : decode cX3_holdsRun 19 = .ok (.goto 4, 3) := by decide +kernel
theorem dX3_holdsRun_22 : decode cX3_holdsRun 22 = .ok (.iconst 0, 1) := by decide +kernel
theorem dX3_holdsRun_23 : decode cX3_holdsRun 23 = .ok (.ireturn, 1) := by decide +kernel
theorem dX3_get_0 : decode cX3_get 0 = .ok (.aload_n 0, 1) := by decide +kernel
theorem dX3_get_1 : decode cX3_get 1 = .ok (.iload_n 1, 1) := by decide +kernel
theorem dX3_get_2 : decode cX3_get 2 = .ok (.invokevirtual 31, 3) := by decide +kernel
theorem dX3_get_5 : decode cX3_get 5 = .ok (.ifCond .eq 12, 3) := by decide +kernel
theorem dX3_get_8 : decode cX3_get 8 = .ok (.aload_n 0, 1) := by decide +kernel
theorem dX3_get_9 : decode cX3_get 9 = .ok (.getfield 9, 3) := by decide +kernel
theorem dX3_get_12 : decode cX3_get 12 = .ok (.iload_n 1, 1) := by decide +kernel
theorem dX3_get_13 : decode cX3_get 13 = .ok (.laload, 1) := by decide +kernel
theorem dX3_get_14 : decode cX3_get 14 = .ok (.goto 6, 3) := by decide +kernel
theorem dX3_get_17 : decode cX3_get 17 = .ok (.ldc2_w 35, 3) := by decide +kernel
theorem dX3_get_20 : decode cX3_get 20 = .ok (.lreturn, 1) := by decide +kernel
theorem dX3_put_0 : decode cX3_put 0 = .ok (.aload_n 0, 1) := by decide +kernel
theorem dX3_put_1 : decode cX3_put 1 = .ok (.iload_n 1, 1) := by decide +kernel
theorem dX3_put_2 : decode cX3_put 2 = .ok (.invokevirtual 31, 3) := by decide +kernel
theorem dX3_put_5 : decode cX3_put 5 = .ok (.ifCond .eq 14, 3) := by decide +kernel
theorem dX3_put_8 : decode cX3_put 8 = .ok (.aload_n 0, 1) := by decide +kernel
theorem dX3_put_9 : decode cX3_put 9 = .ok (.getfield 9, 3) := by decide +kernel
theorem dX3_put_12 : decode cX3_put 12 = .ok (.iload_n 1, 1) := by decide +kernel
theorem dX3_put_13 : decode cX3_put 13 = .ok (.aload_n 0, 1) := by decide +kernel
theorem dX3_put_14 : decode cX3_put 14 = .ok (.lload_n 2, 1) := by decide +kernel
theorem dX3_put_15 : decode cX3_put 15 = .ok (.invokevirtual 37, 3) := by decide +kernel
theorem dX3_put_18 : decode cX3_put 18 = .ok (.lastore, 1) := by decide +kernel
theorem dX3_put_19 : decode cX3_put 19 = .ok (.return_, 1) := by decide +kernel
theorem dX3_take_0 : decode cX3_take 0 = .ok (.aload_n 0, 1) := by decide +kernel
theorem dX3_take_1 : decode cX3_take 1 = .ok (.iload_n 1, 1) := by decide +kernel
theorem dX3_take_2 : decode cX3_take 2 = .ok (.iload 4, 2) := by decide +kernel
theorem dX3_take_4 : decode cX3_take 4 = .ok (.invokevirtual 41, 3) := by decide +kernel
theorem dX3_take_7 : decode cX3_take 7 = .ok (.ifCond .eq 28, 3) := by decide +kernel
theorem dX3_take_10 : decode cX3_take 10 = .ok (.aload_n 2, 1) := by decide +kernel
theorem dX3_take_11 : decode cX3_take 11 = .ok (.iload_n 3, 1) := by decide +kernel
theorem dX3_take_12 : decode cX3_take 12 = .ok (.iload 4, 2) := by decide +kernel
theorem dX3_take_14 : decode cX3_take 14 = .ok (.invokevirtual 41, 3) := by decide +kernel
theorem dX3_take_17 : decode cX3_take 17 = .ok (.ifCond .eq 18, 3) := by decide +kernel
theorem dX3_take_20 : decode cX3_take 20 = .ok (.aload_n 2, 1) := by decide +kernel
theorem dX3_take_21 : decode cX3_take 21 = .ok (.getfield 9, 3) := by decide +kernel
theorem dX3_take_24 : decode cX3_take 24 = .ok (.iload_n 3, 1) := by decide +kernel
theorem dX3_take_25 : decode cX3_take 25 = .ok (.aload_n 0, 1) := by decide +kernel
theorem dX3_take_26 : decode cX3_take 26 = .ok (.getfield 9, 3) := by decide +kernel
theorem dX3_take_29 : decode cX3_take 29 = .ok (.iload_n 1, 1) := by decide +kernel
theorem dX3_take_30 : decode cX3_take 30 = .ok (.iload 4, 2) := by decide +kernel
theorem dX3_take_32 : decode cX3_take 32 = .ok (.invokestatic 45, 3) := by decide +kernel
theorem dX3_take_35 : decode cX3_take 35 = .ok (.return_, 1) := by decide +kernel
theorem dX3_cut_0 : decode cX3_cut 0 = .ok (.aload_n 0, 1) := by decide +kernel
theorem dX3_cut_1 : decode cX3_cut 1 = .ok (.getfield 15, 3) := by decide +kernel
theorem dX3_cut_4 : decode cX3_cut 4 = .ok (.tableswitch 48 0 3 #[32, 37, 42, 46], 32) := by decide +kernel
theorem dX3_cut_36 : decode cX3_cut 36 = .ok (.lload_n 1, 1) := by decide +kernel
theorem dX3_cut_37 : decode cX3_cut 37 = .ok (.l2i, 1) := by decide +kernel
theorem dX3_cut_38 : decode cX3_cut 38 = .ok (.i2b, 1) := by decide +kernel
theorem dX3_cut_39 : decode cX3_cut 39 = .ok (.i2l, 1) := by decide +kernel
theorem dX3_cut_40 : decode cX3_cut 40 = .ok (.lreturn, 1) := by decide +kernel
theorem dX3_cut_41 : decode cX3_cut 41 = .ok (.lload_n 1, 1) := by decide +kernel
theorem dX3_cut_42 : decode cX3_cut 42 = .ok (.l2i, 1) := by decide +kernel
theorem dX3_cut_43 : decode cX3_cut 43 = .ok (.i2s, 1) := by decide +kernel
theorem dX3_cut_44 : decode cX3_cut 44 = .ok (.i2l, 1) := by decide +kernel
theorem dX3_cut_45 : decode cX3_cut 45 = .ok (.lreturn, 1) := by decide +kernel
theorem dX3_cut_46 : decode cX3_cut 46 = .ok (.lload_n 1, 1) := by decide +kernel
theorem dX3_cut_47 : decode cX3_cut 47 = .ok (.l2i, 1) := by decide +kernel
theorem dX3_cut_48 : decode cX3_cut 48 = .ok (.i2l, 1) := by decide +kernel
theorem dX3_cut_49 : decode cX3_cut 49 = .ok (.lreturn, 1) := by decide +kernel
theorem dX3_cut_50 : decode cX3_cut 50 = .ok (.lload_n 1, 1) := by decide +kernel
theorem dX3_cut_51 : decode cX3_cut 51 = .ok (.lreturn, 1) := by decide +kernel
theorem dX3_cut_52 : decode cX3_cut 52 = .ok (.lload_n 1, 1) := by decide +kernel
theorem dX3_cut_53 : decode cX3_cut 53 = .ok (.lconst 0, 1) := by decide +kernel
theorem dX3_cut_54 : decode cX3_cut 54 = .ok (.lcmp, 1) := by decide +kernel
theorem dX3_cut_55 : decode cX3_cut 55 = .ok (.ifCond .ne 7, 3) := by decide +kernel
theorem dX3_cut_58 : decode cX3_cut 58 = .ok (.lconst 0, 1) := by decide +kernel
theorem dX3_cut_59 : decode cX3_cut 59 = .ok (.goto 4, 3) := by decide +kernel
theorem dX3_cut_62 : decode cX3_cut 62 = .ok (.lconst 1, 1) := by decide +kernel
theorem dX3_cut_63 : decode cX3_cut 63 = .ok (.lreturn, 1) := by decide +kernel
theorem dX4_init_0 : decode cX4_init 0 = .ok (.aload_n 0, 1) := by decide +kernel
theorem dX4_init_1 : decode cX4_init 1 = .ok (.invokespecial 3, 3) := by decide +kernel
theorem dX4_init_4 : decode cX4_init 4 = .ok (.aload_n 0, 1) := by decide +kernel
theorem dX4_init_5 : decode cX4_init 5 = .ok (.bipush 100, 2) := by decide +kernel
theorem dX4_init_7 : decode cX4_init 7 = .ok (.newarray .byte, 2) := by decide +kernel
theorem dX4_init_9 : decode cX4_init 9 = .ok (.putfield 9, 3) := by decide +kernel
theorem dX4_init_12 : decode cX4_init 12 = .ok (.aload_n 0, 1) := by decide +kernel
theorem dX4_init_13 : decode cX4_init 13 = .ok (.iconst 0, 1) := by decide +kernel
theorem dX4_init_14 : decode cX4_init 14 = .ok (.putfield 15, 3) := by decide +kernel
theorem dX4_init_17 : decode cX4_init 17 = .ok (.aload_n 0, 1) := by decide +kernel
theorem dX4_init_18 : decode cX4_init 18 = .ok (.iconst 0, 1) := by decide +kernel
theorem dX4_init_19 : decode cX4_init 19 = .ok (.putfield 19, 3) := by decide +kernel
theorem dX4_init_22 : decode cX4_init 22 = .ok (.aload_n 0, 1) := by decide +kernel
theorem dX4_init_23 : decode cX4_init 23 = .ok (.iconst (-1), 1) := by decide +kernel
theorem dX4_init_24 : decode cX4_init 24 = .ok (.putfield 22, 3) := by decide +kernel
theorem dX4_init_27 : decode cX4_init 27 = .ok (.aload_n 0, 1) := by decide +kernel
theorem dX4_init_28 : decode cX4_init 28 = .ok (.iconst 0, 1) := by decide +kernel
theorem dX4_init_29 : decode cX4_init 29 = .ok (.putfield 25, 3) := by decide +kernel
theorem dX4_init_32 : decode cX4_init 32 = .ok (.aload_n 0, 1) := by decide +kernel
theorem dX4_init_33 : decode cX4_init 33 = .ok (.bipush 8, 2) := by decide +kernel
theorem dX4_init_35 : decode cX4_init 35 = .ok (.newarray .int, 2) := by decide +kernel
theorem dX4_init_37 : decode cX4_init 37 = .ok (.putfield 28, 3) := by decide +kernel
theorem dX4_init_40 : decode cX4_init 40 = .ok (.aload_n 0, 1) := by decide +kernel
theorem dX4_init_41 : decode cX4_init 41 = .ok (.bipush 8, 2) := by decide +kernel
theorem dX4_init_43 : decode cX4_init 43 = .ok (.newarray .int, 2) := by decide +kernel
theorem dX4_init_45 : decode cX4_init 45 = .ok (.putfield 32, 3) := by decide +kernel
theorem dX4_init_48 : decode cX4_init 48 = .ok (.aload_n 0, 1) := by decide +kernel
theorem dX4_init_49 : decode cX4_init 49 = .ok (.bipush 8, 2) := by decide +kernel
theorem dX4_init_51 : decode cX4_init 51 = .ok (.newarray .int, 2) := by decide +kernel
theorem dX4_init_53 : decode cX4_init 53 = .ok (.putfield 35, 3) := by decide +kernel
theorem dX4_init_56 : decode cX4_init 56 = .ok (.aload_n 0, 1) := by decide +kernel
theorem dX4_init_57 : decode cX4_init 57 = .ok (.bipush 8, 2) := by decide +kernel
theorem dX4_init_59 : decode cX4_init 59 = .ok (.newarray .boolean, 2) := by decide +kernel
theorem dX4_init_61 : decode cX4_init 61 = .ok (.putfield 38, 3) := by decide +kernel
theorem dX4_init_64 : decode cX4_init 64 = .ok (.return_, 1) := by decide +kernel
theorem dX4_length_0 : decode cX4_length 0 = .ok (.aload_n 0, 1) := by decide +kernel
theorem dX4_length_1 : decode cX4_length 1 = .ok (.getfield 15, 3) := by decide +kernel
theorem dX4_length_4 : decode cX4_length 4 = .ok (.ireturn, 1) := by decide +kernel
theorem dX4_append_0 : decode cX4_append 0 = .ok (.aload_n 0, 1) := by decide +kernel
theorem dX4_append_1 : decode cX4_append 1 = .ok (.getfield 15, 3) := by decide +kernel
theorem dX4_append_4 : decode cX4_append 4 = .ok (.bipush 100, 2) := by decide +kernel
theorem dX4_append_6 : decode cX4_append 6 = .ok (.if_icmp .lt 6, 3) := by decide +kernel
theorem dX4_append_9 : decode cX4_append 9 = .ok (.bipush (-4), 2) := by decide +kernel
theorem dX4_append_11 : decode cX4_append 11 = .ok (.ireturn, 1) := by decide +kernel
theorem dX4_append_12 : decode cX4_append 12 = .ok (.aload_n 0, 1) := by decide +kernel
theorem dX4_append_13 : decode cX4_append 13 = .ok (.getfield 9, 3) := by decide +kernel
theorem dX4_append_16 : decode cX4_append 16 = .ok (.aload_n 0, 1) := by decide +kernel
theorem dX4_append_17 : decode cX4_append 17 = .ok (.getfield 15, 3) := by decide +kernel
theorem dX4_append_20 : decode cX4_append 20 = .ok (.iload_n 1, 1) := by decide +kernel
theorem dX4_append_21 : decode cX4_append 21 = .ok (.i2b, 1) := by decide +kernel
theorem dX4_append_22 : decode cX4_append 22 = .ok (.bastore, 1) := by decide +kernel
theorem dX4_append_23 : decode cX4_append 23 = .ok (.aload_n 0, 1) := by decide +kernel
theorem dX4_append_24 : decode cX4_append 24 = .ok (.dup, 1) := by decide +kernel
theorem dX4_append_25 : decode cX4_append 25 = .ok (.getfield 15, 3) := by decide +kernel
theorem dX4_append_28 : decode cX4_append 28 = .ok (.iconst 1, 1) := by decide +kernel
theorem dX4_append_29 : decode cX4_append 29 = .ok (.iadd, 1) := by decide +kernel
theorem dX4_append_30 : decode cX4_append 30 = .ok (.putfield 15, 3) := by decide +kernel
theorem dX4_append_33 : decode cX4_append 33 = .ok (.aload_n 0, 1) := by decide +kernel
theorem dX4_append_34 : decode cX4_append 34 = .ok (.getfield 15, 3) := by decide +kernel
theorem dX4_append_37 : decode cX4_append 37 = .ok (.ireturn, 1) := by decide +kernel
theorem dX4_clear_0 : decode cX4_clear 0 = .ok (.aload_n 0, 1) := by decide +kernel
theorem dX4_clear_1 : decode cX4_clear 1 = .ok (.iconst 0, 1) := by decide +kernel
theorem dX4_clear_2 : decode cX4_clear 2 = .ok (.putfield 15, 3) := by decide +kernel
theorem dX4_clear_5 : decode cX4_clear 5 = .ok (.return_, 1) := by decide +kernel
theorem dX4_clauses_0 : decode cX4_clauses 0 = .ok (.aload_n 0, 1) := by decide +kernel
theorem dX4_clauses_1 : decode cX4_clauses 1 = .ok (.getfield 25, 3) := by decide +kernel
theorem dX4_clauses_4 : decode cX4_clauses 4 = .ok (.ireturn, 1) := by decide +kernel
theorem dX4_x_0 : decode cX4_x 0 = .ok (.iload_n 1, 1) := by decide +kernel
theorem dX4_x_1 : decode cX4_x 1 = .ok (.ifCond .lt 20, 3) := by decide +kernel
theorem dX4_x_4 : decode cX4_x 4 = .ok (.iload_n 1, 1) := by decide +kernel
theorem dX4_x_5 : decode cX4_x 5 = .ok (.aload_n 0, 1) := by decide +kernel
theorem dX4_x_6 : decode cX4_x 6 = .ok (.getfield 25, 3) := by decide +kernel
theorem dX4_x_9 : decode cX4_x 9 = .ok (.if_icmp .ge 12, 3) := by decide +kernel
theorem dX4_x_12 : decode cX4_x 12 = .ok (.aload_n 0, 1) := by decide +kernel
theorem dX4_x_13 : decode cX4_x 13 = .ok (.getfield 28, 3) := by decide +kernel
theorem dX4_x_16 : decode cX4_x 16 = .ok (.iload_n 1, 1) := by decide +kernel
theorem dX4_x_17 : decode cX4_x 17 = .ok (.iaload, 1) := by decide +kernel
theorem dX4_x_18 : decode cX4_x 18 = .ok (.goto 4, 3) := by decide +kernel
theorem dX4_x_21 : decode cX4_x 21 = .ok (.iconst (-1), 1) := by decide +kernel
theorem dX4_x_22 : decode cX4_x 22 = .ok (.ireturn, 1) := by decide +kernel
theorem dX4_y_0 : decode cX4_y 0 = .ok (.iload_n 1, 1) := by decide +kernel
theorem dX4_y_1 : decode cX4_y 1 = .ok (.ifCond .lt 20, 3) := by decide +kernel
theorem dX4_y_4 : decode cX4_y 4 = .ok (.iload_n 1, 1) := by decide +kernel
theorem dX4_y_5 : decode cX4_y 5 = .ok (.aload_n 0, 1) := by decide +kernel
theorem dX4_y_6 : decode cX4_y 6 = .ok (.getfield 25, 3) := by decide +kernel
theorem dX4_y_9 : decode cX4_y 9 = .ok (.if_icmp .ge 12, 3) := by decide +kernel
theorem dX4_y_12 : decode cX4_y 12 = .ok (.aload_n 0, 1) := by decide +kernel
theorem dX4_y_13 : decode cX4_y 13 = .ok (.getfield 32, 3) := by decide +kernel
theorem dX4_y_16 : decode cX4_y 16 = .ok (.iload_n 1, 1) := by decide +kernel
theorem dX4_y_17 : decode cX4_y 17 = .ok (.iaload, 1) := by decide +kernel
theorem dX4_y_18 : decode cX4_y 18 = .ok (.goto 4, 3) := by decide +kernel
theorem dX4_y_21 : decode cX4_y 21 = .ok (.iconst (-1), 1) := by decide +kernel
theorem dX4_y_22 : decode cX4_y 22 = .ok (.ireturn, 1) := by decide +kernel
theorem dX4_channelAt_0 : decode cX4_channelAt 0 = .ok (.iload_n 1, 1) := by decide +kernel
theorem dX4_channelAt_1 : decode cX4_channelAt 1 = .ok (.ifCond .lt 20, 3) := by decide +kernel
theorem dX4_channelAt_4 : decode cX4_channelAt 4 = .ok (.iload_n 1, 1) := by decide +kernel
theorem dX4_channelAt_5 : decode cX4_channelAt 5 = .ok (.aload_n 0, 1) := by decide +kernel
theorem dX4_channelAt_6 : decode cX4_channelAt 6 = .ok (.getfield 25, 3) := by decide +kernel
theorem dX4_channelAt_9 : decode cX4_channelAt 9 = .ok (.if_icmp .ge 12, 3) := by decide +kernel
theorem dX4_channelAt_12 : decode cX4_channelAt 12 = .ok (.aload_n 0, 1) := by decide +kernel
theorem dX4_channelAt_13 : decode cX4_channelAt 13 = .ok (.getfield 35, 3) := by decide +kernel
theorem dX4_channelAt_16 : decode cX4_channelAt 16 = .ok (.iload_n 1, 1) := by decide +kernel
theorem dX4_channelAt_17 : decode cX4_channelAt 17 = .ok (.iaload, 1) := by decide +kernel
theorem dX4_channelAt_18 : decode cX4_channelAt 18 = .ok (.goto 4, 3) := by decide +kernel
theorem dX4_channelAt_21 : decode cX4_channelAt 21 = .ok (.iconst (-1), 1) := by decide +kernel
theorem dX4_channelAt_22 : decode cX4_channelAt 22 = .ok (.ireturn, 1) := by decide +kernel
theorem dX4_isFixedAt_0 : decode cX4_isFixedAt 0 = .ok (.iload_n 1, 1) := by decide +kernel
theorem dX4_isFixedAt_1 : decode cX4_isFixedAt 1 = .ok (.ifCond .lt 24, 3) := by decide +kernel
theorem dX4_isFixedAt_4 : decode cX4_isFixedAt 4 = .ok (.iload_n 1, 1) := by decide +kernel
theorem dX4_isFixedAt_5 : decode cX4_isFixedAt 5 = .ok (.aload_n 0, 1) := by decide +kernel
theorem dX4_isFixedAt_6 : decode cX4_isFixedAt 6 = .ok (.getfield 25, 3) := by decide +kernel
theorem dX4_isFixedAt_9 : decode cX4_isFixedAt 9 = .ok (.if_icmp .ge 16, 3) := by decide +kernel
theorem dX4_isFixedAt_12 : decode cX4_isFixedAt 12 = .ok (.aload_n 0, 1) := by decide +kernel
theorem dX4_isFixedAt_13 : decode cX4_isFixedAt 13 = .ok (.getfield 38, 3) := by decide +kernel
theorem dX4_isFixedAt_16 : decode cX4_isFixedAt 16 = .ok (.iload_n 1, 1) := by decide +kernel
theorem dX4_isFixedAt_17 : decode cX4_isFixedAt 17 = .ok (.baload, 1) := by decide +kernel
theorem dX4_isFixedAt_18 : decode cX4_isFixedAt 18 = .ok (.ifCond .eq 7, 3) := by decide +kernel
theorem dX4_isFixedAt_21 : decode cX4_isFixedAt 21 = .ok (.iconst 1, 1) := by decide +kernel
theorem dX4_isFixedAt_22 : decode cX4_isFixedAt 22 = .ok (.goto 4, 3) := by decide +kernel
theorem dX4_isFixedAt_25 : decode cX4_isFixedAt 25 = .ok (.iconst 0, 1) := by decide +kernel
theorem dX4_isFixedAt_26 : decode cX4_isFixedAt 26 = .ok (.ireturn, 1) := by decide +kernel
theorem dX4_parse_0 : decode cX4_parse 0 = .ok (.aload_n 0, 1) := by decide +kernel
theorem dX4_parse_1 : decode cX4_parse 1 = .ok (.iconst 0, 1) := by decide +kernel
theorem dX4_parse_2 : decode cX4_parse 2 = .ok (.putfield 19, 3) := by decide +kernel
theorem dX4_parse_5 : decode cX4_parse 5 = .ok (.aload_n 0, 1) := by decide +kernel
theorem dX4_parse_6 : decode cX4_parse 6 = .ok (.iconst (-1), 1) := by decide +kernel
theorem dX4_parse_7 : decode cX4_parse 7 = .ok (.putfield 22, 3) := by decide +kernel
theorem dX4_parse_10 : decode cX4_parse 10 = .ok (.aload_n 0, 1) := by decide +kernel
theorem dX4_parse_11 : decode cX4_parse 11 = .ok (.iconst 0, 1) := by decide +kernel
theorem dX4_parse_12 : decode cX4_parse 12 = .ok (.putfield 25, 3) := by decide +kernel
theorem dX4_parse_15 : decode cX4_parse 15 = .ok (.iconst 0, 1) := by decide +kernel
theorem dX4_parse_16 : decode cX4_parse 16 = .ok (.istore_n 1, 1) := by decide +kernel
theorem dX4_parse_17 : decode cX4_parse 17 = .ok (.iload_n 1, 1) := by decide +kernel
theorem dX4_parse_18 : decode cX4_parse 18 = .ok (.bipush 8, 2) := by decide +kernel
theorem dX4_parse_20 : decode cX4_parse 20 = .ok (.if_icmp .ge 59, 3) := by decide +kernel
theorem dX4_parse_23 : decode cX4_parse 23 = .ok (.iload_n 1, 1) := by decide +kernel
theorem dX4_parse_24 : decode cX4_parse 24 = .ok (.ifCond .le 9, 3) := by decide +kernel
theorem dX4_parse_27 : decode cX4_parse 27 = .ok (.aload_n 0, 1) := by decide +kernel
theorem dX4_parse_28 : decode cX4_parse 28 = .ok (.bipush 59, 2) := by decide +kernel
theorem dX4_parse_30 : decode cX4_parse 30 = .ok (.invokevirtual 42, 3) := by decide +kernel
theorem dX4_parse_33 : decode cX4_parse 33 = .ok (.aload_n 0, 1) := by decide +kernel
theorem dX4_parse_34 : decode cX4_parse 34 = .ok (.iload_n 1, 1) := by decide +kernel
theorem dX4_parse_35 : decode cX4_parse 35 = .ok (.invokevirtual 46, 3) := by decide +kernel
theorem dX4_parse_38 : decode cX4_parse 38 = .ok (.aload_n 0, 1) := by decide +kernel
theorem dX4_parse_39 : decode cX4_parse 39 = .ok (.getfield 22, 3) := by decide +kernel
theorem dX4_parse_42 : decode cX4_parse 42 = .ok (.ifCond .lt 8, 3) := by decide +kernel
theorem dX4_parse_45 : decode cX4_parse 45 = .ok (.aload_n 0, 1) := by decide +kernel
theorem dX4_parse_46 : decode cX4_parse 46 = .ok (.getfield 22, 3) := by decide +kernel
theorem dX4_parse_49 : decode cX4_parse 49 = .ok (.ireturn, 1) := by decide +kernel
theorem dX4_parse_50 : decode cX4_parse 50 = .ok (.aload_n 0, 1) := by decide +kernel
theorem dX4_parse_51 : decode cX4_parse 51 = .ok (.dup, 1) := by decide +kernel
theorem dX4_parse_52 : decode cX4_parse 52 = .ok (.getfield 25, 3) := by decide +kernel
theorem dX4_parse_55 : decode cX4_parse 55 = .ok (.iconst 1, 1) := by decide +kernel
theorem dX4_parse_56 : decode cX4_parse 56 = .ok (.iadd, 1) := by decide +kernel
theorem dX4_parse_57 : decode cX4_parse 57 = .ok (.putfield 25, 3) := by decide +kernel
theorem dX4_parse_60 : decode cX4_parse 60 = .ok (.aload_n 0, 1) := by decide +kernel
theorem dX4_parse_61 : decode cX4_parse 61 = .ok (.getfield 19, 3) := by decide +kernel
theorem dX4_parse_64 : decode cX4_parse 64 = .ok (.aload_n 0, 1) := by decide +kernel
theorem dX4_parse_65 : decode cX4_parse 65 = .ok (.getfield 15, 3) := by decide +kernel
theorem dX4_parse_68 : decode cX4_parse 68 = .ok (.if_icmp .lt 5, 3) := by decide +kernel
theorem dX4_parse_71 : decode cX4_parse 71 = .ok (.iconst (-1), 1) := by decide +kernel
theorem dX4_parse_72 : decode cX4_parse 72 = .ok (.ireturn, 1) := by decide +kernel
theorem dX4_parse_73 : decode cX4_parse 73 = .ok (.iinc 1 1, 3) := by decide +kernel
theorem dX4_parse_76 : decode cX4_parse 76 = .ok (.goto (-59), 3) := by decide +kernel
theorem dX4_parse_79 : decode cX4_parse 79 = .ok (.aload_n 0, 1) := by decide +kernel
theorem dX4_parse_80 : decode cX4_parse 80 = .ok (.getfield 19, 3) := by decide +kernel
theorem dX4_parse_83 : decode cX4_parse 83 = .ok (.ireturn, 1) := by decide +kernel
theorem dX4_readClause_0 : decode cX4_readClause 0 = .ok (.aload_n 0, 1) := by decide +kernel
theorem dX4_readClause_1 : decode cX4_readClause 1 = .ok (.getfield 28, 3) := by decide +kernel
theorem dX4_readClause_4 : decode cX4_readClause 4 = .ok (.iload_n 1, 1) := by decide +kernel
theorem dX4_readClause_5 : decode cX4_readClause 5 = .ok (.aload_n 0, 1) := by decide +kernel
theorem dX4_readClause_6 : decode cX4_readClause 6 = .ok (.bipush 31, 2) := by decide +kernel
theorem dX4_readClause_8 : decode cX4_readClause 8 = .ok (.invokevirtual 50, 3) := by decide +kernel
theorem dX4_readClause_11 : decode cX4_readClause 11 = .ok (.iastore, 1) := by decide +kernel
theorem dX4_readClause_12 : decode cX4_readClause 12 = .ok (.aload_n 0, 1) := by decide +kernel
theorem dX4_readClause_13 : decode cX4_readClause 13 = .ok (.bipush 44, 2) := by decide +kernel
theorem dX4_readClause_15 : decode cX4_readClause 15 = .ok (.invokevirtual 42, 3) := by decide +kernel
theorem dX4_readClause_18 : decode cX4_readClause 18 = .ok (.aload_n 0, 1) := by decide +kernel
theorem dX4_readClause_19 : decode cX4_readClause 19 = .ok (.getfield 32, 3) := by decide +kernel
theorem dX4_readClause_22 : decode cX4_readClause 22 = .ok (.iload_n 1, 1) := by decide +kernel
theorem dX4_readClause_23 : decode cX4_readClause 23 = .ok (.aload_n 0, 1) := by decide +kernel
theorem dX4_readClause_24 : decode cX4_readClause 24 = .ok (.bipush 31, 2) := by decide +kernel
theorem dX4_readClause_26 : decode cX4_readClause 26 = .ok (.invokevirtual 50, 3) := by decide +kernel
theorem dX4_readClause_29 : decode cX4_readClause 29 = .ok (.iastore, 1) := by decide +kernel
theorem dX4_readClause_30 : decode cX4_readClause 30 = .ok (.aload_n 0, 1) := by decide +kernel
theorem dX4_readClause_31 : decode cX4_readClause 31 = .ok (.getfield 35, 3) := by decide +kernel
theorem dX4_readClause_34 : decode cX4_readClause 34 = .ok (.iload_n 1, 1) := by decide +kernel
theorem dX4_readClause_35 : decode cX4_readClause 35 = .ok (.iconst (-1), 1) := by decide +kernel
theorem dX4_readClause_36 : decode cX4_readClause 36 = .ok (.iastore, 1) := by decide +kernel
theorem dX4_readClause_37 : decode cX4_readClause 37 = .ok (.aload_n 0, 1) := by decide +kernel
theorem dX4_readClause_38 : decode cX4_readClause 38 = .ok (.getfield 38, 3) := by decide +kernel
theorem dX4_readClause_41 : decode cX4_readClause 41 = .ok (.iload_n 1, 1) := by decide +kernel
theorem dX4_readClause_42 : decode cX4_readClause 42 = .ok (.iconst 0, 1) := by decide +kernel
theorem dX4_readClause_43 : decode cX4_readClause 43 = .ok (.bastore, 1) := by decide +kernel
theorem dX4_readClause_44 : decode cX4_readClause 44 = .ok (.aload_n 0, 1) := by decide +kernel
theorem dX4_readClause_45 : decode cX4_readClause 45 = .ok (.getfield 22, 3) := by decide +kernel
theorem dX4_readClause_48 : decode cX4_readClause 48 = .ok (.ifCond .ge 59, 3) := by decide +kernel
theorem dX4_readClause_51 : decode cX4_readClause 51 = .ok (.aload_n 0, 1) := by decide +kernel
theorem dX4_readClause_52 : decode cX4_readClause 52 = .ok (.bipush 61, 2) := by decide +kernel
theorem dX4_readClause_54 : decode cX4_readClause 54 = .ok (.invokevirtual 54, 3) := by decide +kernel
theorem dX4_readClause_57 : decode cX4_readClause 57 = .ok (.ifCond .eq 50, 3) := by decide +kernel
theorem dX4_readClause_60 : decode cX4_readClause 60 = .ok (.aload_n 0, 1) := by decide +kernel
theorem dX4_readClause_61 : decode cX4_readClause 61 = .ok (.bipush 61, 2) := by decide +kernel
theorem dX4_readClause_63 : decode cX4_readClause 63 = .ok (.invokevirtual 42, 3) := by decide +kernel
theorem dX4_readClause_66 : decode cX4_readClause 66 = .ok (.aload_n 0, 1) := by decide +kernel
theorem dX4_readClause_67 : decode cX4_readClause 67 = .ok (.getfield 35, 3) := by decide +kernel
theorem dX4_readClause_70 : decode cX4_readClause 70 = .ok (.iload_n 1, 1) := by decide +kernel
theorem dX4_readClause_71 : decode cX4_readClause 71 = .ok (.aload_n 0, 1) := by decide +kernel
theorem dX4_readClause_72 : decode cX4_readClause 72 = .ok (.bipush 19, 2) := by decide +kernel
theorem dX4_readClause_74 : decode cX4_readClause 74 = .ok (.invokevirtual 50, 3) := by decide +kernel
theorem dX4_readClause_77 : decode cX4_readClause 77 = .ok (.iastore, 1) := by decide +kernel
theorem dX4_readClause_78 : decode cX4_readClause 78 = .ok (.aload_n 0, 1) := by decide +kernel
theorem dX4_readClause_79 : decode cX4_readClause 79 = .ok (.getfield 22, 3) := by decide +kernel
theorem dX4_readClause_82 : decode cX4_readClause 82 = .ok (.ifCond .ge 25, 3) := by decide +kernel
theorem dX4_readClause_85 : decode cX4_readClause 85 = .ok (.aload_n 0, 1) := by decide +kernel
theorem dX4_readClause_86 : decode cX4_readClause 86 = .ok (.bipush 33, 2) := by decide +kernel
theorem dX4_readClause_88 : decode cX4_readClause 88 = .ok (.invokevirtual 54, 3) := by decide +kernel
theorem dX4_readClause_91 : decode cX4_readClause 91 = .ok (.ifCond .eq 16, 3) := by decide +kernel
theorem dX4_readClause_94 : decode cX4_readClause 94 = .ok (.aload_n 0, 1) := by decide +kernel
theorem dX4_readClause_95 : decode cX4_readClause 95 = .ok (.bipush 33, 2) := by decide +kernel
theorem dX4_readClause_97 : decode cX4_readClause 97 = .ok (.invokevirtual 42, 3) := by decide +kernel
theorem dX4_readClause_100 : decode cX4_readClause 100 = .ok (.aload_n 0, 1) := by decide +kernel
theorem dX4_readClause_101 : decode cX4_readClause 101 = .ok (.getfield 38, 3) := by decide +kernel
theorem dX4_readClause_104 : decode cX4_readClause 104 = .ok (.iload_n 1, 1) := by decide +kernel
theorem dX4_readClause_105 : decode cX4_readClause 105 = .ok (.iconst 1, 1) := by decide +kernel
theorem dX4_readClause_106 : decode cX4_readClause 106 = .ok (.bastore, 1) := by decide +kernel
theorem dX4_readClause_107 : decode cX4_readClause 107 = .ok (.return_, 1) := by decide +kernel
theorem dX4_isNext_0 : decode cX4_isNext 0 = .ok (.aload_n 0, 1) := by decide +kernel
theorem dX4_isNext_1 : decode cX4_isNext 1 = .ok (.getfield 19, 3) := by decide +kernel
theorem dX4_isNext_4 : decode cX4_isNext 4 = .ok (.aload_n 0, 1) := by decide +kernel
theorem dX4_isNext_5 : decode cX4_isNext 5 = .ok (.getfield 15, 3) := by decide +kernel
theorem dX4_isNext_8 : decode cX4_isNext 8 = .ok (.if_icmp .ge 20, 3) := by decide +kernel
theorem dX4_isNext_11 : decode cX4_isNext 11 = .ok (.aload_n 0, 1) := by decide +kernel
theorem dX4_isNext_12 : decode cX4_isNext 12 = .ok (.getfield 9, 3) := by decide +kernel
theorem dX4_isNext_15 : decode cX4_isNext 15 = .ok (.aload_n 0, 1) := by decide +kernel
theorem dX4_isNext_16 : decode cX4_isNext 16 = .ok (.getfield 19, 3) := by decide +kernel
theorem dX4_isNext_19 : decode cX4_isNext 19 = .ok (.baload, 1) := by decide +kernel
theorem dX4_isNext_20 : decode cX4_isNext 20 = .ok (.iload_n 1, 1) := by decide +kernel
theorem dX4_isNext_21 : decode cX4_isNext 21 = .ok (.if_icmp .ne 7, 3) := by decide +kernel
theorem dX4_isNext_24 : decode cX4_isNext 24 = .ok (.iconst 1, 1) := by decide +kernel
theorem dX4_isNext_25 : decode cX4_isNext 25 = .ok (.goto 4, 3) := by decide +kernel
theorem dX4_isNext_28 : decode cX4_isNext 28 = .ok (.iconst 0, 1) := by decide +kernel
theorem dX4_isNext_29 : decode cX4_isNext 29 = .ok (.ireturn, 1) := by decide +kernel
theorem dX4_expect_0 : decode cX4_expect 0 = .ok (.aload_n 0, 1) := by decide +kernel
theorem dX4_expect_1 : decode cX4_expect 1 = .ok (.getfield 22, 3) := by decide +kernel
theorem dX4_expect_4 : decode cX4_expect 4 = .ok (.ifCond .lt 4, 3) := by decide +kernel
theorem dX4_expect_7 : decode cX4_expect 7 = .ok (.return_, 1) := by decide +kernel
theorem dX4_expect_8 : decode cX4_expect 8 = .ok (.aload_n 0, 1) := by decide +kernel
theorem dX4_expect_9 : decode cX4_expect 9 = .ok (.iload_n 1, 1) := by decide +kernel
theorem dX4_expect_10 : decode cX4_expect 10 = .ok (.invokevirtual 54, 3) := by decide +kernel
theorem dX4_expect_13 : decode cX4_expect 13 = .ok (.ifCond .eq 16, 3) := by decide +kernel
theorem dX4_expect_16 : decode cX4_expect 16 = .ok (.aload_n 0, 1) := by decide +kernel
theorem dX4_expect_17 : decode cX4_expect 17 = .ok (.dup, 1) := by decide +kernel
theorem dX4_expect_18 : decode cX4_expect 18 = .ok (.getfield 19, 3) := by decide +kernel
theorem dX4_expect_21 : decode cX4_expect 21 = .ok (.iconst 1, 1) := by decide +kernel
theorem dX4_expect_22 : decode cX4_expect 22 = .ok (.iadd, 1) := by decide +kernel
theorem dX4_expect_23 : decode cX4_expect 23 = .ok (.putfield 19, 3) := by decide +kernel
theorem dX4_expect_26 : decode cX4_expect 26 = .ok (.goto 11, 3) := by decide +kernel
theorem dX4_expect_29 : decode cX4_expect 29 = .ok (.aload_n 0, 1) := by decide +kernel
theorem dX4_expect_30 : decode cX4_expect 30 = .ok (.aload_n 0, 1) := by decide +kernel
theorem dX4_expect_31 : decode cX4_expect 31 = .ok (.getfield 19, 3) := by decide +kernel
theorem dX4_expect_34 : decode cX4_expect 34 = .ok (.putfield 22, 3) := by decide +kernel
theorem dX4_expect_37 : decode cX4_expect 37 = .ok (.return_, 1) := by decide +kernel
theorem dX4_readNumber_0 : decode cX4_readNumber 0 = .ok (.aload_n 0, 1) := by decide +kernel
theorem dX4_readNumber_1 : decode cX4_readNumber 1 = .ok (.getfield 22, 3) := by decide +kernel
theorem dX4_readNumber_4 : decode cX4_readNumber 4 = .ok (.ifCond .lt 5, 3) := by decide +kernel
theorem dX4_readNumber_7 : decode cX4_readNumber 7 = .ok (.iconst 0, 1) := by decide +kernel
theorem dX4_readNumber_8 : decode cX4_readNumber 8 = .ok (.ireturn, 1) := by decide +kernel
theorem dX4_readNumber_9 : decode cX4_readNumber 9 = .ok (.aload_n 0, 1) := by decide +kernel
theorem dX4_readNumber_10 : decode cX4_readNumber 10 = .ok (.invokevirtual 58, 3) := by decide +kernel
theorem dX4_readNumber_13 : decode cX4_readNumber 13 = .ok (.istore_n 2, 1) := by decide +kernel
theorem dX4_readNumber_14 : decode cX4_readNumber 14 = .ok (.iload_n 2, 1) := by decide +kernel
theorem dX4_readNumber_15 : decode cX4_readNumber 15 = .ok (.ifCond .ge 13, 3) := by decide +kernel
theorem dX4_readNumber_18 : decode cX4_readNumber 18 = .ok (.aload_n 0, 1) := by decide +kernel
theorem dX4_readNumber_19 : decode cX4_readNumber 19 = .ok (.aload_n 0, 1) := by decide +kernel
theorem dX4_readNumber_20 : decode cX4_readNumber 20 = .ok (.getfield 19, 3) := by decide +kernel
theorem dX4_readNumber_23 : decode cX4_readNumber 23 = .ok (.putfield 22, 3) := by decide +kernel
theorem dX4_readNumber_26 : decode cX4_readNumber 26 = .ok (.iconst 0, 1) := by decide +kernel
theorem dX4_readNumber_27 : decode cX4_readNumber 27 = .ok (.ireturn, 1) := by decide +kernel
theorem dX4_readNumber_28 : decode cX4_readNumber 28 = .ok (.aload_n 0, 1) := by decide +kernel
theorem dX4_readNumber_29 : decode cX4_readNumber 29 = .ok (.dup, 1) := by decide +kernel
theorem dX4_readNumber_30 : decode cX4_readNumber 30 = .ok (.getfield 19, 3) := by decide +kernel
theorem dX4_readNumber_33 : decode cX4_readNumber 33 = .ok (.iconst 1, 1) := by decide +kernel
theorem dX4_readNumber_34 : decode cX4_readNumber 34 = .ok (.iadd, 1) := by decide +kernel
theorem dX4_readNumber_35 : decode cX4_readNumber 35 = .ok (.putfield 19, 3) := by decide +kernel
theorem dX4_readNumber_38 : decode cX4_readNumber 38 = .ok (.aload_n 0, 1) := by decide +kernel
theorem dX4_readNumber_39 : decode cX4_readNumber 39 = .ok (.invokevirtual 58, 3) := by decide +kernel
theorem dX4_readNumber_42 : decode cX4_readNumber 42 = .ok (.istore_n 3, 1) := by decide +kernel
theorem dX4_readNumber_43 : decode cX4_readNumber 43 = .ok (.iload_n 3, 1) := by decide +kernel
theorem dX4_readNumber_44 : decode cX4_readNumber 44 = .ok (.ifCond .ge 5, 3) := by decide +kernel
theorem dX4_readNumber_47 : decode cX4_readNumber 47 = .ok (.iload_n 2, 1) := by decide +kernel
theorem dX4_readNumber_48 : decode cX4_readNumber 48 = .ok (.ireturn, 1) := by decide +kernel
theorem dX4_readNumber_49 : decode cX4_readNumber 49 = .ok (.iload_n 2, 1) := by decide +kernel
theorem dX4_readNumber_50 : decode cX4_readNumber 50 = .ok (.bipush 10, 2) := by decide +kernel
theorem dX4_readNumber_52 : decode cX4_readNumber 52 = .ok (.imul, 1) := by decide +kernel
theorem dX4_readNumber_53 : decode cX4_readNumber 53 = .ok (.iload_n 3, 1) := by decide +kernel
theorem dX4_readNumber_54 : decode cX4_readNumber 54 = .ok (.iadd, 1) := by decide +kernel
theorem dX4_readNumber_55 : decode cX4_readNumber 55 = .ok (.istore 4, 2) := by decide +kernel
theorem dX4_readNumber_57 : decode cX4_readNumber 57 = .ok (.iload 4, 2) := by decide +kernel
theorem dX4_readNumber_59 : decode cX4_readNumber 59 = .ok (.iload_n 1, 1) := by decide +kernel
theorem dX4_readNumber_60 : decode cX4_readNumber 60 = .ok (.if_icmp .le 13, 3) := by decide +kernel
theorem dX4_readNumber_63 : decode cX4_readNumber 63 = .ok (.aload_n 0, 1) := by decide +kernel
theorem dX4_readNumber_64 : decode cX4_readNumber 64 = .ok (.aload_n 0, 1) := by decide +kernel
theorem dX4_readNumber_65 : decode cX4_readNumber 65 = .ok (.getfield 19, 3) := by decide +kernel
theorem dX4_readNumber_68 : decode cX4_readNumber 68 = .ok (.putfield 22, 3) := by decide +kernel
theorem dX4_readNumber_71 : decode cX4_readNumber 71 = .ok (.iconst 0, 1) := by decide +kernel
theorem dX4_readNumber_72 : decode cX4_readNumber 72 = .ok (.ireturn, 1) := by decide +kernel
theorem dX4_readNumber_73 : decode cX4_readNumber 73 = .ok (.aload_n 0, 1) := by decide +kernel
theorem dX4_readNumber_74 : decode cX4_readNumber 74 = .ok (.dup, 1) := by decide +kernel
theorem dX4_readNumber_75 : decode cX4_readNumber 75 = .ok (.getfield 19, 3) := by decide +kernel
theorem dX4_readNumber_78 : decode cX4_readNumber 78 = .ok (.iconst 1, 1) := by decide +kernel
theorem dX4_readNumber_79 : decode cX4_readNumber 79 = .ok (.iadd, 1) := by decide +kernel
theorem dX4_readNumber_80 : decode cX4_readNumber 80 = .ok (.putfield 19, 3) := by decide +kernel
theorem dX4_readNumber_83 : decode cX4_readNumber 83 = .ok (.iload 4, 2) := by decide +kernel
theorem dX4_readNumber_85 : decode cX4_readNumber 85 = .ok (.ireturn, 1) := by decide +kernel
theorem dX4_digit_0 : decode cX4_digit 0 = .ok (.aload_n 0, 1) := by decide +kernel
theorem dX4_digit_1 : decode cX4_digit 1 = .ok (.getfield 19, 3) := by decide +kernel
theorem dX4_digit_4 : decode cX4_digit 4 = .ok (.aload_n 0, 1) := by decide +kernel
theorem dX4_digit_5 : decode cX4_digit 5 = .ok (.getfield 15, 3) := by decide +kernel
theorem dX4_digit_8 : decode cX4_digit 8 = .ok (.if_icmp .ge 31, 3) := by decide +kernel
theorem dX4_digit_11 : decode cX4_digit 11 = .ok (.aload_n 0, 1) := by decide +kernel
theorem dX4_digit_12 : decode cX4_digit 12 = .ok (.getfield 9, 3) := by decide +kernel
theorem dX4_digit_15 : decode cX4_digit 15 = .ok (.aload_n 0, 1) := by decide +kernel
theorem dX4_digit_16 : decode cX4_digit 16 = .ok (.getfield 19, 3) := by decide +kernel
theorem dX4_digit_19 : decode cX4_digit 19 = .ok (.baload, 1) := by decide +kernel
theorem dX4_digit_20 : decode cX4_digit 20 = .ok (.bipush 48, 2) := by decide +kernel
theorem dX4_digit_22 : decode cX4_digit 22 = .ok (.if_icmp .lt 17, 3) := by decide +kernel
theorem dX4_digit_25 : decode cX4_digit 25 = .ok (.aload_n 0, 1) := by decide +kernel
theorem dX4_digit_26 : decode cX4_digit 26 = .ok (.getfield 9, 3) := by decide +kernel
theorem dX4_digit_29 : decode cX4_digit 29 = .ok (.aload_n 0, 1) := by decide +kernel
theorem dX4_digit_30 : decode cX4_digit 30 = .ok (.getfield 19, 3) := by decide +kernel
theorem dX4_digit_33 : decode cX4_digit 33 = .ok (.baload, 1) := by decide +kernel
theorem dX4_digit_34 : decode cX4_digit 34 = .ok (.bipush 57, 2) := by decide +kernel
theorem dX4_digit_36 : decode cX4_digit 36 = .ok (.if_icmp .le 5, 3) := by decide +kernel
theorem dX4_digit_39 : decode cX4_digit 39 = .ok (.iconst (-1), 1) := by decide +kernel
theorem dX4_digit_40 : decode cX4_digit 40 = .ok (.ireturn, 1) := by decide +kernel
theorem dX4_digit_41 : decode cX4_digit 41 = .ok (.aload_n 0, 1) := by decide +kernel
theorem dX4_digit_42 : decode cX4_digit 42 = .ok (.getfield 9, 3) := by decide +kernel
theorem dX4_digit_45 : decode cX4_digit 45 = .ok (.aload_n 0, 1) := by decide +kernel
theorem dX4_digit_46 : decode cX4_digit 46 = .ok (.getfield 19, 3) := by decide +kernel
theorem dX4_digit_49 : decode cX4_digit 49 = .ok (.baload, 1) := by decide +kernel
theorem dX4_digit_50 : decode cX4_digit 50 = .ok (.bipush 48, 2) := by decide +kernel
theorem dX4_digit_52 : decode cX4_digit 52 = .ok (.isub, 1) := by decide +kernel
theorem dX4_digit_53 : decode cX4_digit 53 = .ok (.ireturn, 1) := by decide +kernel
theorem dX5_init_0 : decode cX5_init 0 = .ok (.aload_n 0, 1) := by decide +kernel
theorem dX5_init_1 : decode cX5_init 1 = .ok (.invokespecial 3, 3) := by decide +kernel
theorem dX5_init_4 : decode cX5_init 4 = .ok (.aload_n 0, 1) := by decide +kernel
theorem dX5_init_5 : decode cX5_init 5 = .ok (.bipush 8, 2) := by decide +kernel
theorem dX5_init_7 : decode cX5_init 7 = .ok (.newarray .int, 2) := by decide +kernel
theorem dX5_init_9 : decode cX5_init 9 = .ok (.putfield 9, 3) := by decide +kernel
theorem dX5_init_12 : decode cX5_init 12 = .ok (.aload_n 0, 1) := by decide +kernel
theorem dX5_init_13 : decode cX5_init 13 = .ok (.bipush 72, 2) := by decide +kernel
theorem dX5_init_15 : decode cX5_init 15 = .ok (.newarray .int, 2) := by decide +kernel
theorem dX5_init_17 : decode cX5_init 17 = .ok (.putfield 15, 3) := by decide +kernel
theorem dX5_init_20 : decode cX5_init 20 = .ok (.return_, 1) := by decide +kernel
theorem dX5_largestClique_0 : decode cX5_largestClique 0 = .ok (.aload_n 0, 1) := by decide +kernel
theorem dX5_largestClique_1 : decode cX5_largestClique 1 = .ok (.aload_n 1, 1) := by decide +kernel
theorem dX5_largestClique_2 : decode cX5_largestClique 2 = .ok (.iload_n 2, 1) := by decide +kernel
theorem dX5_largestClique_3 : decode cX5_largestClique 3 = .ok (.invokevirtual 18, 3) := by decide +kernel
theorem dX5_largestClique_6 : decode cX5_largestClique 6 = .ok (.iconst 0, 1) := by decide +kernel
theorem dX5_largestClique_7 : decode cX5_largestClique 7 = .ok (.istore_n 3, 1) := by decide +kernel
theorem dX5_largestClique_8 : decode cX5_largestClique 8 = .ok (.iconst 0, 1) := by decide +kernel
theorem dX5_largestClique_9 : decode cX5_largestClique 9 = .ok (.istore 4, 2) := by decide +kernel
theorem dX5_largestClique_11 : decode cX5_largestClique 11 = .ok (.iconst 1, 1) := by decide +kernel
theorem dX5_largestClique_12 : decode cX5_largestClique 12 = .ok (.istore 5, 2) := by decide +kernel
theorem dX5_largestClique_14 : decode cX5_largestClique 14 = .ok (.iload 5, 2) := by decide +kernel
theorem dX5_largestClique_16 : decode cX5_largestClique 16 = .ok (.iconst 1, 1) := by decide +kernel
theorem dX5_largestClique_17 : decode cX5_largestClique 17 = .ok (.aload_n 1, 1) := by decide +kernel
theorem dX5_largestClique_18 : decode cX5_largestClique 18 = .ok (.invokevirtual 22, 3) := by decide +kernel
theorem dX5_largestClique_21 : decode cX5_largestClique 21 = .ok (.ishl, 1) := by decide +kernel
theorem dX5_largestClique_22 : decode cX5_largestClique 22 = .ok (.if_icmp .ge 43, 3) := by decide +kernel
theorem dX5_largestClique_25 : decode cX5_largestClique 25 = .ok (.iload 5, 2) := by decide +kernel
theorem dX5_largestClique_27 : decode cX5_largestClique 27 = .ok (.invokestatic 28, 3) := by decide +kernel
theorem dX5_largestClique_30 : decode cX5_largestClique 30 = .ok (.istore 6, 2) := by decide +kernel
