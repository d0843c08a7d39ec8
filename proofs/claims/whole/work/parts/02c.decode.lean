theorem dX5_largestClique_32 : decode cX5_largestClique 32 = .ok (.iload 6, 2) := by decide +kernel
theorem dX5_largestClique_34 : decode cX5_largestClique 34 = .ok (.iload 4, 2) := by decide +kernel
theorem dX5_largestClique_36 : decode cX5_largestClique 36 = .ok (.if_icmp .le 23, 3) := by decide +kernel
theorem dX5_largestClique_39 : decode cX5_largestClique 39 = .ok (.aload_n 0, 1) := by decide +kernel
theorem dX5_largestClique_40 : decode cX5_largestClique 40 = .ok (.iload 5, 2) := by decide +kernel
theorem dX5_largestClique_42 : decode cX5_largestClique 42 = .ok (.aload_n 1, 1) := by decide +kernel
theorem dX5_largestClique_43 : decode cX5_largestClique 43 = .ok (.invokevirtual 22, 3) := by decide +kernel
theorem dX5_largestClique_46 : decode cX5_largestClique 46 = .ok (.invokevirtual 34, 3) := by decide +kernel
theorem dX5_largestClique_49 : decode cX5_largestClique 49 = .ok (.ifCond .eq 10, 3) := by decide +kernel
theorem dX5_largestClique_52 : decode cX5_largestClique 52 = .ok (.iload 5, 2) := by decide +kernel
theorem dX5_largestClique_54 : decode cX5_largestClique 54 = .ok (.istore_n 3, 1) := by decide +kernel
theorem dX5_largestClique_55 : decode cX5_largestClique 55 = .ok (.iload 6, 2) := by decide +kernel
theorem dX5_largestClique_57 : decode cX5_largestClique 57 = .ok (.istore 4, 2) := by decide +kernel
theorem dX5_largestClique_59 : decode cX5_largestClique 59 = .ok (.iinc 5 1, 3) := by decide +kernel
theorem dX5_largestClique_62 : decode cX5_largestClique 62 = .ok (.goto (-48), 3) := by decide +kernel
theorem dX5_largestClique_65 : decode cX5_largestClique 65 = .ok (.iload_n 3, 1) := by decide +kernel
theorem dX5_largestClique_66 : decode cX5_largestClique 66 = .ok (.ireturn, 1) := by decide +kernel
theorem dX5_befriend_0 : decode cX5_befriend 0 = .ok (.iconst 0, 1) := by decide +kernel
theorem dX5_befriend_1 : decode cX5_befriend 1 = .ok (.istore_n 3, 1) := by decide +kernel
theorem dX5_befriend_2 : decode cX5_befriend 2 = .ok (.iload_n 3, 1) := by decide +kernel
theorem dX5_befriend_3 : decode cX5_befriend 3 = .ok (.aload_n 1, 1) := by decide +kernel
theorem dX5_befriend_4 : decode cX5_befriend 4 = .ok (.invokevirtual 22, 3) := by decide +kernel
theorem dX5_befriend_7 : decode cX5_befriend 7 = .ok (.if_icmp .ge 64, 3) := by decide +kernel
theorem dX5_befriend_10 : decode cX5_befriend 10 = .ok (.aload_n 0, 1) := by decide +kernel
theorem dX5_befriend_11 : decode cX5_befriend 11 = .ok (.getfield 9, 3) := by decide +kernel
theorem dX5_befriend_14 : decode cX5_befriend 14 = .ok (.iload_n 3, 1) := by decide +kernel
theorem dX5_befriend_15 : decode cX5_befriend 15 = .ok (.iconst 1, 1) := by decide +kernel
theorem dX5_befriend_16 : decode cX5_befriend 16 = .ok (.iload_n 3, 1) := by decide +kernel
theorem dX5_befriend_17 : decode cX5_befriend 17 = .ok (.ishl, 1) := by decide +kernel
theorem dX5_befriend_18 : decode cX5_befriend 18 = .ok (.iastore, 1) := by decide +kernel
theorem dX5_befriend_19 : decode cX5_befriend 19 = .ok (.iconst 0, 1) := by decide +kernel
theorem dX5_befriend_20 : decode cX5_befriend 20 = .ok (.istore 4, 2) := by decide +kernel
theorem dX5_befriend_22 : decode cX5_befriend 22 = .ok (.iload 4, 2) := by decide +kernel
theorem dX5_befriend_24 : decode cX5_befriend 24 = .ok (.aload_n 1, 1) := by decide +kernel
theorem dX5_befriend_25 : decode cX5_befriend 25 = .ok (.invokevirtual 22, 3) := by decide +kernel
theorem dX5_befriend_28 : decode cX5_befriend 28 = .ok (.if_icmp .ge 37, 3) := by decide +kernel
theorem dX5_befriend_31 : decode cX5_befriend 31 = .ok (.aload_n 0, 1) := by decide +kernel
theorem dX5_befriend_32 : decode cX5_befriend 32 = .ok (.getfield 9, 3) := by decide +kernel
theorem dX5_befriend_35 : decode cX5_befriend 35 = .ok (.iload_n 3, 1) := by decide +kernel
theorem dX5_befriend_36 : decode cX5_befriend 36 = .ok (.dup2, 1) := by decide +kernel
theorem dX5_befriend_37 : decode cX5_befriend 37 = .ok (.iaload, 1) := by decide +kernel
theorem dX5_befriend_38 : decode cX5_befriend 38 = .ok (.aload_n 1, 1) := by decide +kernel
theorem dX5_befriend_39 : decode cX5_befriend 39 = .ok (.iload_n 3, 1) := by decide +kernel
theorem dX5_befriend_40 : decode cX5_befriend 40 = .ok (.iload 4, 2) := by decide +kernel
theorem dX5_befriend_42 : decode cX5_befriend 42 = .ok (.invokevirtual 38, 3) := by decide +kernel
theorem dX5_befriend_45 : decode cX5_befriend 45 = .ok (.iload_n 2, 1) := by decide +kernel
theorem dX5_befriend_46 : decode cX5_befriend 46 = .ok (.if_icmp .lt 10, 3) := by decide +kernel
theorem dX5_befriend_49 : decode cX5_befriend 49 = .ok (.iconst 1, 1) := by decide +kernel
theorem dX5_befriend_50 : decode cX5_befriend 50 = .ok (.iload 4, 2) := by decide +kernel
theorem dX5_befriend_52 : decode cX5_befriend 52 = .ok (.ishl, 1) := by decide +kernel
theorem dX5_befriend_53 : decode cX5_befriend 53 = .ok (.goto 4, 3) := by decide +kernel
theorem dX5_befriend_56 : decode cX5_befriend 56 = .ok (.iconst 0, 1) := by decide +kernel
theorem dX5_befriend_57 : decode cX5_befriend 57 = .ok (.ior, 1) := by decide +kernel
theorem dX5_befriend_58 : decode cX5_befriend 58 = .ok (.iastore, 1) := by decide +kernel
theorem dX5_befriend_59 : decode cX5_befriend 59 = .ok (.iinc 4 1, 3) := by decide +kernel
theorem dX5_befriend_62 : decode cX5_befriend 62 = .ok (.goto (-40), 3) := by decide +kernel
theorem dX5_befriend_65 : decode cX5_befriend 65 = .ok (.iinc 3 1, 3) := by decide +kernel
theorem dX5_befriend_68 : decode cX5_befriend 68 = .ok (.goto (-66), 3) := by decide +kernel
theorem dX5_befriend_71 : decode cX5_befriend 71 = .ok (.return_, 1) := by decide +kernel
theorem dX5_areFriends_0 : decode cX5_areFriends 0 = .ok (.iconst 0, 1) := by decide +kernel
theorem dX5_areFriends_1 : decode cX5_areFriends 1 = .ok (.istore_n 3, 1) := by decide +kernel
theorem dX5_areFriends_2 : decode cX5_areFriends 2 = .ok (.iload_n 3, 1) := by decide +kernel
theorem dX5_areFriends_3 : decode cX5_areFriends 3 = .ok (.iload_n 2, 1) := by decide +kernel
theorem dX5_areFriends_4 : decode cX5_areFriends 4 = .ok (.if_icmp .ge 33, 3) := by decide +kernel
theorem dX5_areFriends_7 : decode cX5_areFriends 7 = .ok (.iload_n 1, 1) := by decide +kernel
theorem dX5_areFriends_8 : decode cX5_areFriends 8 = .ok (.iload_n 3, 1) := by decide +kernel
theorem dX5_areFriends_9 : decode cX5_areFriends 9 = .ok (.ishr, 1) := by decide +kernel
theorem dX5_areFriends_10 : decode cX5_areFriends 10 = .ok (.iconst 1, 1) := by decide +kernel
theorem dX5_areFriends_11 : decode cX5_areFriends 11 = .ok (.iand, 1) := by decide +kernel
theorem dX5_areFriends_12 : decode cX5_areFriends 12 = .ok (.iconst 1, 1) := by decide +kernel
theorem dX5_areFriends_13 : decode cX5_areFriends 13 = .ok (.if_icmp .ne 18, 3) := by decide +kernel
theorem dX5_areFriends_16 : decode cX5_areFriends 16 = .ok (.iload_n 1, 1) := by decide +kernel
theorem dX5_areFriends_17 : decode cX5_areFriends 17 = .ok (.aload_n 0, 1) := by decide +kernel
theorem dX5_areFriends_18 : decode cX5_areFriends 18 = .ok (.getfield 9, 3) := by decide +kernel
theorem dX5_areFriends_21 : decode cX5_areFriends 21 = .ok (.iload_n 3, 1) := by decide +kernel
theorem dX5_areFriends_22 : decode cX5_areFriends 22 = .ok (.iaload, 1) := by decide +kernel
theorem dX5_areFriends_23 : decode cX5_areFriends 23 = .ok (.iconst (-1), 1) := by decide +kernel
theorem dX5_areFriends_24 : decode cX5_areFriends 24 = .ok (.ixor, 1) := by decide +kernel
theorem dX5_areFriends_25 : decode cX5_areFriends 25 = .ok (.iand, 1) := by decide +kernel
theorem dX5_areFriends_26 : decode cX5_areFriends 26 = .ok (.ifCond .eq 5, 3) := by decide +kernel
theorem dX5_areFriends_29 : decode cX5_areFriends 29 = .ok (.iconst 0, 1) := by decide +kernel
theorem dX5_areFriends_30 : decode cX5_areFriends 30 = .ok (.ireturn, 1) := by decide +kernel
theorem dX5_areFriends_31 : decode cX5_areFriends 31 = .ok (.iinc 3 1, 3) := by decide +kernel
theorem dX5_areFriends_34 : decode cX5_areFriends 34 = .ok (.goto (-32), 3) := by decide +kernel
theorem dX5_areFriends_37 : decode cX5_areFriends 37 = .ok (.iconst 1, 1) := by decide +kernel
theorem dX5_areFriends_38 : decode cX5_areFriends 38 = .ok (.ireturn, 1) := by decide +kernel
theorem dX5_bound_0 : decode cX5_bound 0 = .ok (.aload_n 1, 1) := by decide +kernel
theorem dX5_bound_1 : decode cX5_bound 1 = .ok (.invokevirtual 22, 3) := by decide +kernel
theorem dX5_bound_4 : decode cX5_bound 4 = .ok (.ifCond .ne 5, 3) := by decide +kernel
theorem dX5_bound_7 : decode cX5_bound 7 = .ok (.iconst 0, 1) := by decide +kernel
theorem dX5_bound_8 : decode cX5_bound 8 = .ok (.ireturn, 1) := by decide +kernel
theorem dX5_bound_9 : decode cX5_bound 9 = .ok (.iconst 0, 1) := by decide +kernel
theorem dX5_bound_10 : decode cX5_bound 10 = .ok (.istore_n 2, 1) := by decide +kernel
theorem dX5_bound_11 : decode cX5_bound 11 = .ok (.iconst 1, 1) := by decide +kernel
theorem dX5_bound_12 : decode cX5_bound 12 = .ok (.istore_n 3, 1) := by decide +kernel
theorem dX5_bound_13 : decode cX5_bound 13 = .ok (.iload_n 3, 1) := by decide +kernel
theorem dX5_bound_14 : decode cX5_bound 14 = .ok (.iconst 4, 1) := by decide +kernel
theorem dX5_bound_15 : decode cX5_bound 15 = .ok (.if_icmp .gt 33, 3) := by decide +kernel
theorem dX5_bound_18 : decode cX5_bound 18 = .ok (.aload_n 0, 1) := by decide +kernel
theorem dX5_bound_19 : decode cX5_bound 19 = .ok (.aload_n 1, 1) := by decide +kernel
theorem dX5_bound_20 : decode cX5_bound 20 = .ok (.iload_n 3, 1) := by decide +kernel
theorem dX5_bound_21 : decode cX5_bound 21 = .ok (.invokevirtual 42, 3) := by decide +kernel
theorem dX5_bound_24 : decode cX5_bound 24 = .ok (.invokestatic 28, 3) := by decide +kernel
theorem dX5_bound_27 : decode cX5_bound 27 = .ok (.istore 4, 2) := by decide +kernel
theorem dX5_bound_29 : decode cX5_bound 29 = .ok (.iload_n 2, 1) := by decide +kernel
theorem dX5_bound_30 : decode cX5_bound 30 = .ok (.iload 4, 2) := by decide +kernel
theorem dX5_bound_32 : decode cX5_bound 32 = .ok (.iconst 1, 1) := by decide +kernel
theorem dX5_bound_33 : decode cX5_bound 33 = .ok (.isub, 1) := by decide +kernel
theorem dX5_bound_34 : decode cX5_bound 34 = .ok (.iload_n 3, 1) := by decide +kernel
theorem dX5_bound_35 : decode cX5_bound 35 = .ok (.imul, 1) := by decide +kernel
theorem dX5_bound_36 : decode cX5_bound 36 = .ok (.iconst 1, 1) := by decide +kernel
theorem dX5_bound_37 : decode cX5_bound 37 = .ok (.iadd, 1) := by decide +kernel
theorem dX5_bound_38 : decode cX5_bound 38 = .ok (.invokestatic 46, 3) := by decide +kernel
theorem dX5_bound_41 : decode cX5_bound 41 = .ok (.istore_n 2, 1) := by decide +kernel
theorem dX5_bound_42 : decode cX5_bound 42 = .ok (.iinc 3 1, 3) := by decide +kernel
theorem dX5_bound_45 : decode cX5_bound 45 = .ok (.goto (-32), 3) := by decide +kernel
theorem dX5_bound_48 : decode cX5_bound 48 = .ok (.iload_n 2, 1) := by decide +kernel
theorem dX5_bound_49 : decode cX5_bound 49 = .ok (.ireturn, 1) := by decide +kernel
theorem dX5_leastWidth_0 : decode cX5_leastWidth 0 = .ok (.aload_n 1, 1) := by decide +kernel
theorem dX5_leastWidth_1 : decode cX5_leastWidth 1 = .ok (.invokevirtual 22, 3) := by decide +kernel
theorem dX5_leastWidth_4 : decode cX5_leastWidth 4 = .ok (.ifCond .ne 5, 3) := by decide +kernel
theorem dX5_leastWidth_7 : decode cX5_leastWidth 7 = .ok (.iconst 0, 1) := by decide +kernel
theorem dX5_leastWidth_8 : decode cX5_leastWidth 8 = .ok (.ireturn, 1) := by decide +kernel
theorem dX5_leastWidth_9 : decode cX5_leastWidth 9 = .ok (.aload_n 0, 1) := by decide +kernel
theorem dX5_leastWidth_10 : decode cX5_leastWidth 10 = .ok (.aload_n 1, 1) := by decide +kernel
theorem dX5_leastWidth_11 : decode cX5_leastWidth 11 = .ok (.invokevirtual 51, 3) := by decide +kernel
theorem dX5_leastWidth_14 : decode cX5_leastWidth 14 = .ok (.istore_n 2, 1) := by decide +kernel
theorem dX5_leastWidth_15 : decode cX5_leastWidth 15 = .ok (.iload_n 2, 1) := by decide +kernel
theorem dX5_leastWidth_16 : decode cX5_leastWidth 16 = .ok (.bipush 12, 2) := by decide +kernel
theorem dX5_leastWidth_18 : decode cX5_leastWidth 18 = .ok (.if_icmp .gt 20, 3) := by decide +kernel
theorem dX5_leastWidth_21 : decode cX5_leastWidth 21 = .ok (.aload_n 0, 1) := by decide +kernel
theorem dX5_leastWidth_22 : decode cX5_leastWidth 22 = .ok (.aload_n 1, 1) := by decide +kernel
theorem dX5_leastWidth_23 : decode cX5_leastWidth 23 = .ok (.iload_n 2, 1) := by decide +kernel
theorem dX5_leastWidth_24 : decode cX5_leastWidth 24 = .ok (.invokevirtual 55, 3) := by decide +kernel
theorem dX5_leastWidth_27 : decode cX5_leastWidth 27 = .ok (.ifCond .eq 5, 3) := by decide +kernel
theorem dX5_leastWidth_30 : decode cX5_leastWidth 30 = .ok (.iload_n 2, 1) := by decide +kernel
theorem dX5_leastWidth_31 : decode cX5_leastWidth 31 = .ok (.ireturn, 1) := by decide +kernel
theorem dX5_leastWidth_32 : decode cX5_leastWidth 32 = .ok (.iinc 2 1, 3) := by decide +kernel
theorem dX5_leastWidth_35 : decode cX5_leastWidth 35 = .ok (.goto (-20), 3) := by decide +kernel
theorem dX5_leastWidth_38 : decode cX5_leastWidth 38 = .ok (.bipush (-5), 2) := by decide +kernel
theorem dX5_leastWidth_40 : decode cX5_leastWidth 40 = .ok (.ireturn, 1) := by decide +kernel
theorem dX5_isWideEnough_0 : decode cX5_isWideEnough 0 = .ok (.iconst 1, 1) := by decide +kernel
theorem dX5_isWideEnough_1 : decode cX5_isWideEnough 1 = .ok (.iload_n 2, 1) := by decide +kernel
theorem dX5_isWideEnough_2 : decode cX5_isWideEnough 2 = .ok (.ishl, 1) := by decide +kernel
theorem dX5_isWideEnough_3 : decode cX5_isWideEnough 3 = .ok (.iconst 1, 1) := by decide +kernel
theorem dX5_isWideEnough_4 : decode cX5_isWideEnough 4 = .ok (.isub, 1) := by decide +kernel
theorem dX5_isWideEnough_5 : decode cX5_isWideEnough 5 = .ok (.istore_n 3, 1) := by decide +kernel
theorem dX5_isWideEnough_6 : decode cX5_isWideEnough 6 = .ok (.iconst 0, 1) := by decide +kernel
theorem dX5_isWideEnough_7 : decode cX5_isWideEnough 7 = .ok (.istore 4, 2) := by decide +kernel
theorem dX5_isWideEnough_9 : decode cX5_isWideEnough 9 = .ok (.iload 4, 2) := by decide +kernel
theorem dX5_isWideEnough_11 : decode cX5_isWideEnough 11 = .ok (.aload_n 1, 1) := by decide +kernel
theorem dX5_isWideEnough_12 : decode cX5_isWideEnough 12 = .ok (.invokevirtual 22, 3) := by decide +kernel
theorem dX5_isWideEnough_15 : decode cX5_isWideEnough 15 = .ok (.if_icmp .ge 52, 3) := by decide +kernel
theorem dX5_isWideEnough_18 : decode cX5_isWideEnough 18 = .ok (.aload_n 1, 1) := by decide +kernel
theorem dX5_isWideEnough_19 : decode cX5_isWideEnough 19 = .ok (.iload 4, 2) := by decide +kernel
theorem dX5_isWideEnough_21 : decode cX5_isWideEnough 21 = .ok (.invokevirtual 59, 3) := by decide +kernel
theorem dX5_isWideEnough_24 : decode cX5_isWideEnough 24 = .ok (.ifCond .eq 18, 3) := by decide +kernel
theorem dX5_isWideEnough_27 : decode cX5_isWideEnough 27 = .ok (.iload_n 3, 1) := by decide +kernel
theorem dX5_isWideEnough_28 : decode cX5_isWideEnough 28 = .ok (.aload_n 1, 1) := by decide +kernel
theorem dX5_isWideEnough_29 : decode cX5_isWideEnough 29 = .ok (.iload 4, 2) := by decide +kernel
theorem dX5_isWideEnough_31 : decode cX5_isWideEnough 31 = .ok (.invokevirtual 63, 3) := by decide +kernel
theorem dX5_isWideEnough_34 : decode cX5_isWideEnough 34 = .ok (.iconst 1, 1) := by decide +kernel
theorem dX5_isWideEnough_35 : decode cX5_isWideEnough 35 = .ok (.invokestatic 66, 3) := by decide +kernel
theorem dX5_isWideEnough_38 : decode cX5_isWideEnough 38 = .ok (.iand, 1) := by decide +kernel
theorem dX5_isWideEnough_39 : decode cX5_isWideEnough 39 = .ok (.goto 4, 3) := by decide +kernel
theorem dX5_isWideEnough_42 : decode cX5_isWideEnough 42 = .ok (.iload_n 3, 1) := by decide +kernel
theorem dX5_isWideEnough_43 : decode cX5_isWideEnough 43 = .ok (.istore 5, 2) := by decide +kernel
theorem dX5_isWideEnough_45 : decode cX5_isWideEnough 45 = .ok (.iload 5, 2) := by decide +kernel
theorem dX5_isWideEnough_47 : decode cX5_isWideEnough 47 = .ok (.ifCond .ne 5, 3) := by decide +kernel
theorem dX5_isWideEnough_50 : decode cX5_isWideEnough 50 = .ok (.iconst 0, 1) := by decide +kernel
theorem dX5_isWideEnough_51 : decode cX5_isWideEnough 51 = .ok (.ireturn, 1) := by decide +kernel
theorem dX5_isWideEnough_52 : decode cX5_isWideEnough 52 = .ok (.aload_n 0, 1) := by decide +kernel
theorem dX5_isWideEnough_53 : decode cX5_isWideEnough 53 = .ok (.iconst 0, 1) := by decide +kernel
theorem dX5_isWideEnough_54 : decode cX5_isWideEnough 54 = .ok (.iload 4, 2) := by decide +kernel
theorem dX5_isWideEnough_56 : decode cX5_isWideEnough 56 = .ok (.iload 5, 2) := by decide +kernel
theorem dX5_isWideEnough_58 : decode cX5_isWideEnough 58 = .ok (.invokevirtual 69, 3) := by decide +kernel
theorem dX5_isWideEnough_61 : decode cX5_isWideEnough 61 = .ok (.iinc 4 1, 3) := by decide +kernel
theorem dX5_isWideEnough_64 : decode cX5_isWideEnough 64 = .ok (.goto (-55), 3) := by decide +kernel
theorem dX5_isWideEnough_67 : decode cX5_isWideEnough 67 = .ok (.aload_n 0, 1) := by decide +kernel
theorem dX5_isWideEnough_68 : decode cX5_isWideEnough 68 = .ok (.aload_n 1, 1) := by decide +kernel
theorem dX5_isWideEnough_69 : decode cX5_isWideEnough 69 = .ok (.iconst 1, 1) := by decide +kernel
theorem dX5_isWideEnough_70 : decode cX5_isWideEnough 70 = .ok (.aload_n 1, 1) := by decide +kernel
theorem dX5_isWideEnough_71 : decode cX5_isWideEnough 71 = .ok (.invokevirtual 22, 3) := by decide +kernel
theorem dX5_isWideEnough_74 : decode cX5_isWideEnough 74 = .ok (.ishl, 1) := by decide +kernel
theorem dX5_isWideEnough_75 : decode cX5_isWideEnough 75 = .ok (.iconst 1, 1) := by decide +kernel
theorem dX5_isWideEnough_76 : decode cX5_isWideEnough 76 = .ok (.isub, 1) := by decide +kernel
theorem dX5_isWideEnough_77 : decode cX5_isWideEnough 77 = .ok (.iconst 0, 1) := by decide +kernel
theorem dX5_isWideEnough_78 : decode cX5_isWideEnough 78 = .ok (.invokestatic 73, 3) := by decide +kernel
theorem dX5_isWideEnough_81 : decode cX5_isWideEnough 81 = .ok (.ireturn, 1) := by decide +kernel
theorem dX5_areSeated_0 : decode cX5_areSeated 0 = .ok (.iload_n 2, 1) := by decide +kernel
theorem dX5_areSeated_1 : decode cX5_areSeated 1 = .ok (.ifCond .ne 5, 3) := by decide +kernel
theorem dX5_areSeated_4 : decode cX5_areSeated 4 = .ok (.iconst 1, 1) := by decide +kernel
theorem dX5_areSeated_5 : decode cX5_areSeated 5 = .ok (.ireturn, 1) := by decide +kernel
theorem dX5_areSeated_6 : decode cX5_areSeated 6 = .ok (.iload_n 3, 1) := by decide +kernel
theorem dX5_areSeated_7 : decode cX5_areSeated 7 = .ok (.bipush 8, 2) := by decide +kernel
theorem dX5_areSeated_9 : decode cX5_areSeated 9 = .ok (.if_icmp .ge 13, 3) := by decide +kernel
theorem dX5_areSeated_12 : decode cX5_areSeated 12 = .ok (.aload_n 0, 1) := by decide +kernel
theorem dX5_areSeated_13 : decode cX5_areSeated 13 = .ok (.aload_n 1, 1) := by decide +kernel
theorem dX5_areSeated_14 : decode cX5_areSeated 14 = .ok (.iload_n 2, 1) := by decide +kernel
theorem dX5_areSeated_15 : decode cX5_areSeated 15 = .ok (.iload_n 3, 1) := by decide +kernel
theorem dX5_areSeated_16 : decode cX5_areSeated 16 = .ok (.invokevirtual 77, 3) := by decide +kernel
theorem dX5_areSeated_19 : decode cX5_areSeated 19 = .ok (.goto 4, 3) := by decide +kernel
theorem dX5_areSeated_22 : decode cX5_areSeated 22 = .ok (.iconst (-1), 1) := by decide +kernel
theorem dX5_areSeated_23 : decode cX5_areSeated 23 = .ok (.istore 4, 2) := by decide +kernel
theorem dX5_areSeated_25 : decode cX5_areSeated 25 = .ok (.iload 4, 2) := by decide +kernel
theorem dX5_areSeated_27 : decode cX5_areSeated 27 = .ok (.ifCond .ge 5, 3) := by decide +kernel
theorem dX5_areSeated_30 : decode cX5_areSeated 30 = .ok (.iconst 0, 1) := by decide +kernel
theorem dX5_areSeated_31 : decode cX5_areSeated 31 = .ok (.ireturn, 1) := by decide +kernel
theorem dX5_areSeated_32 : decode cX5_areSeated 32 = .ok (.iload_n 2, 1) := by decide +kernel
theorem dX5_areSeated_33 : decode cX5_areSeated 33 = .ok (.iconst 1, 1) := by decide +kernel
theorem dX5_areSeated_34 : decode cX5_areSeated 34 = .ok (.iload 4, 2) := by decide +kernel
theorem dX5_areSeated_36 : decode cX5_areSeated 36 = .ok (.ishl, 1) := by decide +kernel
theorem dX5_areSeated_37 : decode cX5_areSeated 37 = .ok (.iconst (-1), 1) := by decide +kernel
theorem dX5_areSeated_38 : decode cX5_areSeated 38 = .ok (.ixor, 1) := by decide +kernel
theorem dX5_areSeated_39 : decode cX5_areSeated 39 = .ok (.iand, 1) := by decide +kernel
theorem dX5_areSeated_40 : decode cX5_areSeated 40 = .ok (.istore 5, 2) := by decide +kernel
theorem dX5_areSeated_42 : decode cX5_areSeated 42 = .ok (.aload_n 0, 1) := by decide +kernel
theorem dX5_areSeated_43 : decode cX5_areSeated 43 = .ok (.iload_n 3, 1) := by decide +kernel
theorem dX5_areSeated_44 : decode cX5_areSeated 44 = .ok (.iload 4, 2) := by decide +kernel
theorem dX5_areSeated_46 : decode cX5_areSeated 46 = .ok (.invokevirtual 81, 3) := by decide +kernel
theorem dX5_areSeated_49 : decode cX5_areSeated 49 = .ok (.istore 6, 2) := by decide +kernel
theorem dX5_areSeated_51 : decode cX5_areSeated 51 = .ok (.iload_n 3, 1) := by decide +kernel
theorem dX5_areSeated_52 : decode cX5_areSeated 52 = .ok (.ifCond .ne 17, 3) := by decide +kernel
theorem dX5_areSeated_55 : decode cX5_areSeated 55 = .ok (.aload_n 1, 1) := by decide +kernel
theorem dX5_areSeated_56 : decode cX5_areSeated 56 = .ok (.invokevirtual 84, 3) := by decide +kernel
theorem dX5_areSeated_59 : decode cX5_areSeated 59 = .ok (.ifCond .ne 10, 3) := by decide +kernel
theorem dX5_areSeated_62 : decode cX5_areSeated 62 = .ok (.iload 6, 2) := by decide +kernel
theorem dX5_areSeated_64 : decode cX5_areSeated 64 = .ok (.invokestatic 87, 3) := by decide +kernel
theorem dX5_areSeated_67 : decode cX5_areSeated 67 = .ok (.istore 6, 2) := by decide +kernel
theorem dX5_areSeated_69 : decode cX5_areSeated 69 = .ok (.iconst 0, 1) := by decide +kernel
theorem dX5_areSeated_70 : decode cX5_areSeated 70 = .ok (.istore 7, 2) := by decide +kernel
theorem dX5_areSeated_72 : decode cX5_areSeated 72 = .ok (.iload 7, 2) := by decide +kernel
theorem dX5_areSeated_74 : decode cX5_areSeated 74 = .ok (.bipush 12, 2) := by decide +kernel
theorem dX5_areSeated_76 : decode cX5_areSeated 76 = .ok (.if_icmp .ge 50, 3) := by decide +kernel
theorem dX5_areSeated_79 : decode cX5_areSeated 79 = .ok (.iload 6, 2) := by decide +kernel
theorem dX5_areSeated_81 : decode cX5_areSeated 81 = .ok (.iload 7, 2) := by decide +kernel
theorem dX5_areSeated_83 : decode cX5_areSeated 83 = .ok (.ishr, 1) := by decide +kernel
theorem dX5_areSeated_84 : decode cX5_areSeated 84 = .ok (.iconst 1, 1) := by decide +kernel
theorem dX5_areSeated_85 : decode cX5_areSeated 85 = .ok (.iand, 1) := by decide +kernel
theorem dX5_areSeated_86 : decode cX5_areSeated 86 = .ok (.iconst 1, 1) := by decide +kernel
theorem dX5_areSeated_87 : decode cX5_areSeated 87 = .ok (.if_icmp .ne 33, 3) := by decide +kernel
theorem dX5_areSeated_90 : decode cX5_areSeated 90 = .ok (.aload_n 0, 1) := by decide +kernel
theorem dX5_areSeated_91 : decode cX5_areSeated 91 = .ok (.aload_n 1, 1) := by decide +kernel
theorem dX5_areSeated_92 : decode cX5_areSeated 92 = .ok (.iload 5, 2) := by decide +kernel
theorem dX5_areSeated_94 : decode cX5_areSeated 94 = .ok (.iload_n 3, 1) := by decide +kernel
theorem dX5_areSeated_95 : decode cX5_areSeated 95 = .ok (.iload 4, 2) := by decide +kernel
theorem dX5_areSeated_97 : decode cX5_areSeated 97 = .ok (.iload 7, 2) := by decide +kernel
theorem dX5_areSeated_99 : decode cX5_areSeated 99 = .ok (.invokevirtual 90, 3) := by decide +kernel
theorem dX5_areSeated_102 : decode cX5_areSeated 102 = .ok (.ifCond .eq 18, 3) := by decide +kernel
theorem dX5_areSeated_105 : decode cX5_areSeated 105 = .ok (.aload_n 0, 1) := by decide +kernel
theorem dX5_areSeated_106 : decode cX5_areSeated 106 = .ok (.aload_n 1, 1) := by decide +kernel
theorem dX5_areSeated_107 : decode cX5_areSeated 107 = .ok (.iload 5, 2) := by decide +kernel
theorem dX5_areSeated_109 : decode cX5_areSeated 109 = .ok (.iload_n 3, 1) := by decide +kernel
theorem dX5_areSeated_110 : decode cX5_areSeated 110 = .ok (.iconst 1, 1) := by decide +kernel
theorem dX5_areSeated_111 : decode cX5_areSeated 111 = .ok (.iadd, 1) := by decide +kernel
theorem dX5_areSeated_112 : decode cX5_areSeated 112 = .ok (.invokestatic 73, 3) := by decide +kernel
theorem dX5_areSeated_115 : decode cX5_areSeated 115 = .ok (.ifCond .eq 5, 3) := by decide +kernel
theorem dX5_areSeated_118 : decode cX5_areSeated 118 = .ok (.iconst 1, 1) := by decide +kernel
theorem dX5_areSeated_119 : decode cX5_areSeated 119 = .ok (.ireturn, 1) := by decide +kernel
theorem dX5_areSeated_120 : decode cX5_areSeated 120 = .ok (.iinc 7 1, 3) := by decide +kernel
theorem dX5_areSeated_123 : decode cX5_areSeated 123 = .ok (.goto (-51), 3) := by decide +kernel
theorem dX5_areSeated_126 : decode cX5_areSeated 126 = .ok (.iconst 0, 1) := by decide +kernel
theorem dX5_areSeated_127 : decode cX5_areSeated 127 = .ok (.ireturn, 1) := by decide +kernel
theorem dX5_lowerHalf_0 : decode cX5_lowerHalf 0 = .ok (.iload_n 0, 1) := by decide +kernel
theorem dX5_lowerHalf_1 : decode cX5_lowerHalf 1 = .ok (.iconst 1, 1) := by decide +kernel
theorem dX5_lowerHalf_2 : decode cX5_lowerHalf 2 = .ok (.iload_n 0, 1) := by decide +kernel
theorem dX5_lowerHalf_3 : decode cX5_lowerHalf 3 = .ok (.invokestatic 28, 3) := by decide +kernel
theorem dX5_lowerHalf_6 : decode cX5_lowerHalf 6 = .ok (.iconst 1, 1) := by decide +kernel
theorem dX5_lowerHalf_7 : decode cX5_lowerHalf 7 = .ok (.iadd, 1) := by decide +kernel
theorem dX5_lowerHalf_8 : decode cX5_lowerHalf 8 = .ok (.iconst 2, 1) := by decide +kernel
theorem dX5_lowerHalf_9 : decode cX5_lowerHalf 9 = .ok (.idiv, 1) := by decide +kernel
theorem dX5_lowerHalf_10 : decode cX5_lowerHalf 10 = .ok (.ishl, 1) := by decide +kernel
theorem dX5_lowerHalf_11 : decode cX5_lowerHalf 11 = .ok (.iconst 1, 1) := by decide +kernel
theorem dX5_lowerHalf_12 : decode cX5_lowerHalf 12 = .ok (.isub, 1) := by decide +kernel
theorem dX5_lowerHalf_13 : decode cX5_lowerHalf 13 = .ok (.iand, 1) := by decide +kernel
theorem dX5_lowerHalf_14 : decode cX5_lowerHalf 14 = .ok (.ireturn, 1) := by decide +kernel
theorem dX5_tightest_0 : decode cX5_tightest 0 = .ok (.iconst (-1), 1) := by decide +kernel
theorem dX5_tightest_1 : decode cX5_tightest 1 = .ok (.istore 4, 2) := by decide +kernel
theorem dX5_tightest_3 : decode cX5_tightest 3 = .ok (.iconst 0, 1) := by decide +kernel
theorem dX5_tightest_4 : decode cX5_tightest 4 = .ok (.istore 5, 2) := by decide +kernel
theorem dX5_tightest_6 : decode cX5_tightest 6 = .ok (.iconst 0, 1) := by decide +kernel
theorem dX5_tightest_7 : decode cX5_tightest 7 = .ok (.istore 6, 2) := by decide +kernel
theorem dX5_tightest_9 : decode cX5_tightest 9 = .ok (.iconst 0, 1) := by decide +kernel
theorem dX5_tightest_10 : decode cX5_tightest 10 = .ok (.istore 7, 2) := by decide +kernel
theorem dX5_tightest_12 : decode cX5_tightest 12 = .ok (.iload 7, 2) := by decide +kernel
theorem dX5_tightest_14 : decode cX5_tightest 14 = .ok (.aload_n 1, 1) := by decide +kernel
theorem dX5_tightest_15 : decode cX5_tightest 15 = .ok (.invokevirtual 22, 3) := by decide +kernel
theorem dX5_tightest_18 : decode cX5_tightest 18 = .ok (.if_icmp .ge 73, 3) := by decide +kernel
theorem dX5_tightest_21 : decode cX5_tightest 21 = .ok (.iload_n 2, 1) := by decide +kernel
theorem dX5_tightest_22 : decode cX5_tightest 22 = .ok (.iload 7, 2) := by decide +kernel
theorem dX5_tightest_24 : decode cX5_tightest 24 = .ok (.ishr, 1) := by decide +kernel
theorem dX5_tightest_25 : decode cX5_tightest 25 = .ok (.iconst 1, 1) := by decide +kernel
theorem dX5_tightest_26 : decode cX5_tightest 26 = .ok (.iand, 1) := by decide +kernel
theorem dX5_tightest_27 : decode cX5_tightest 27 = .ok (.iconst 1, 1) := by decide +kernel
theorem dX5_tightest_28 : decode cX5_tightest 28 = .ok (.if_icmp .ne 57, 3) := by decide +kernel
theorem dX5_tightest_31 : decode cX5_tightest 31 = .ok (.aload_n 0, 1) := by decide +kernel
theorem dX5_tightest_32 : decode cX5_tightest 32 = .ok (.iload_n 3, 1) := by decide +kernel
theorem dX5_tightest_33 : decode cX5_tightest 33 = .ok (.iload 7, 2) := by decide +kernel
theorem dX5_tightest_35 : decode cX5_tightest 35 = .ok (.invokevirtual 81, 3) := by decide +kernel
theorem dX5_tightest_38 : decode cX5_tightest 38 = .ok (.invokestatic 28, 3) := by decide +kernel
theorem dX5_tightest_41 : decode cX5_tightest 41 = .ok (.istore 8, 2) := by decide +kernel
theorem dX5_tightest_43 : decode cX5_tightest 43 = .ok (.iconst 1, 1) := by decide +kernel
theorem dX5_tightest_44 : decode cX5_tightest 44 = .ok (.aload_n 0, 1) := by decide +kernel
theorem dX5_tightest_45 : decode cX5_tightest 45 = .ok (.aload_n 1, 1) := by decide +kernel
theorem dX5_tightest_46 : decode cX5_tightest 46 = .ok (.iload_n 2, 1) := by decide +kernel
theorem dX5_tightest_47 : decode cX5_tightest 47 = .ok (.iload 7, 2) := by decide +kernel
theorem dX5_tightest_49 : decode cX5_tightest 49 = .ok (.invokevirtual 94, 3) := by decide +kernel
theorem dX5_tightest_52 : decode cX5_tightest 52 = .ok (.iadd, 1) := by decide +kernel
theorem dX5_tightest_53 : decode cX5_tightest 53 = .ok (.istore 9, 2) := by decide +kernel
theorem dX5_tightest_55 : decode cX5_tightest 55 = .ok (.iload 4, 2) := by decide +kernel
theorem dX5_tightest_57 : decode cX5_tightest 57 = .ok (.ifCond .lt 16, 3) := by decide +kernel
theorem dX5_tightest_60 : decode cX5_tightest 60 = .ok (.iload 8, 2) := by decide +kernel
theorem dX5_tightest_62 : decode cX5_tightest 62 = .ok (.iload 6, 2) := by decide +kernel
theorem dX5_tightest_64 : decode cX5_tightest 64 = .ok (.imul, 1) := by decide +kernel
theorem dX5_tightest_65 : decode cX5_tightest 65 = .ok (.iload 5, 2) := by decide +kernel
theorem dX5_tightest_67 : decode cX5_tightest 67 = .ok (.iload 9, 2) := by decide +kernel
theorem dX5_tightest_69 : decode cX5_tightest 69 = .ok (.imul, 1) := by decide +kernel
theorem dX5_tightest_70 : decode cX5_tightest 70 = .ok (.if_icmp .ge 15, 3) := by decide +kernel
theorem dX5_tightest_73 : decode cX5_tightest 73 = .ok (.iload 7, 2) := by decide +kernel
theorem dX5_tightest_75 : decode cX5_tightest 75 = .ok (.istore 4, 2) := by decide +kernel
theorem dX5_tightest_77 : decode cX5_tightest 77 = .ok (.iload 8, 2) := by decide +kernel
theorem dX5_tightest_79 : decode cX5_tightest 79 = .ok (.istore 5, 2) := by decide +kernel
theorem dX5_tightest_81 : decode cX5_tightest 81 = .ok (.iload 9, 2) := by decide +kernel
theorem dX5_tightest_83 : decode cX5_tightest 83 = .ok (.istore 6, 2) := by decide +kernel
theorem dX5_tightest_85 : decode cX5_tightest 85 = .ok (.iinc 7 1, 3) := by decide +kernel
theorem dX5_tightest_88 : decode cX5_tightest 88 = .ok (.goto (-76), 3) := by decide +kernel
theorem dX5_tightest_91 : decode cX5_tightest 91 = .ok (.iload 4, 2) := by decide +kernel
theorem dX5_tightest_93 : decode cX5_tightest 93 = .ok (.ireturn, 1) := by decide +kernel
theorem dX5_weightAmong_0 : decode cX5_weightAmong 0 = .ok (.iconst 0, 1) := by decide +kernel
theorem dX5_weightAmong_1 : decode cX5_weightAmong 1 = .ok (.istore 4, 2) := by decide +kernel
theorem dX5_weightAmong_3 : decode cX5_weightAmong 3 = .ok (.iconst 0, 1) := by decide +kernel
theorem dX5_weightAmong_4 : decode cX5_weightAmong 4 = .ok (.istore 5, 2) := by decide +kernel
theorem dX5_weightAmong_6 : decode cX5_weightAmong 6 = .ok (.iload 5, 2) := by decide +kernel
theorem dX5_weightAmong_8 : decode cX5_weightAmong 8 = .ok (.aload_n 1, 1) := by decide +kernel
theorem dX5_weightAmong_9 : decode cX5_weightAmong 9 = .ok (.invokevirtual 22, 3) := by decide +kernel
theorem dX5_weightAmong_12 : decode cX5_weightAmong 12 = .ok (.if_icmp .ge 35, 3) := by decide +kernel
theorem dX5_weightAmong_15 : decode cX5_weightAmong 15 = .ok (.iload 4, 2) := by decide +kernel
theorem dX5_weightAmong_17 : decode cX5_weightAmong 17 = .ok (.iload_n 2, 1) := by decide +kernel
theorem dX5_weightAmong_18 : decode cX5_weightAmong 18 = .ok (.iload 5, 2) := by decide +kernel
theorem dX5_weightAmong_20 : decode cX5_weightAmong 20 = .ok (.ishr, 1) := by decide +kernel
theorem dX5_weightAmong_21 : decode cX5_weightAmong 21 = .ok (.iconst 1, 1) := by decide +kernel
theorem dX5_weightAmong_22 : decode cX5_weightAmong 22 = .ok (.iand, 1) := by decide +kernel
theorem dX5_weightAmong_23 : decode cX5_weightAmong 23 = .ok (.iconst 1, 1) := by decide +kernel
theorem dX5_weightAmong_24 : decode cX5_weightAmong 24 = .ok (.if_icmp .ne 13, 3) := by decide +kernel
theorem dX5_weightAmong_27 : decode cX5_weightAmong 27 = .ok (.aload_n 1, 1) := by decide +kernel
theorem dX5_weightAmong_28 : decode cX5_weightAmong 28 = .ok (.iload_n 3, 1) := by decide +kernel
theorem dX5_weightAmong_29 : decode cX5_weightAmong 29 = .ok (.iload 5, 2) := by decide +kernel
theorem dX5_weightAmong_31 : decode cX5_weightAmong 31 = .ok (.invokevirtual 38, 3) := by decide +kernel
theorem dX5_weightAmong_34 : decode cX5_weightAmong 34 = .ok (.goto 4, 3) := by decide +kernel
theorem dX5_weightAmong_37 : decode cX5_weightAmong 37 = .ok (.iconst 0, 1) := by decide +kernel
theorem dX5_weightAmong_38 : decode cX5_weightAmong 38 = .ok (.iadd, 1) := by decide +kernel
theorem dX5_weightAmong_39 : decode cX5_weightAmong 39 = .ok (.istore 4, 2) := by decide +kernel
theorem dX5_weightAmong_41 : decode cX5_weightAmong 41 = .ok (.iinc 5 1, 3) := by decide +kernel
theorem dX5_weightAmong_44 : decode cX5_weightAmong 44 = .ok (.goto (-38), 3) := by decide +kernel
theorem dX5_weightAmong_47 : decode cX5_weightAmong 47 = .ok (.iload 4, 2) := by decide +kernel
theorem dX5_weightAmong_49 : decode cX5_weightAmong 49 = .ok (.ireturn, 1) := by decide +kernel
theorem dX5_leaves_0 : decode cX5_leaves 0 = .ok (.iconst 0, 1) := by decide +kernel
theorem dX5_leaves_1 : decode cX5_leaves 1 = .ok (.istore 6, 2) := by decide +kernel
theorem dX5_leaves_3 : decode cX5_leaves 3 = .ok (.iload 6, 2) := by decide +kernel
theorem dX5_leaves_5 : decode cX5_leaves 5 = .ok (.aload_n 1, 1) := by decide +kernel
theorem dX5_leaves_6 : decode cX5_leaves 6 = .ok (.invokevirtual 22, 3) := by decide +kernel
theorem dX5_leaves_9 : decode cX5_leaves 9 = .ok (.if_icmp .ge 62, 3) := by decide +kernel
theorem dX5_leaves_12 : decode cX5_leaves 12 = .ok (.iload_n 2, 1) := by decide +kernel
theorem dX5_leaves_13 : decode cX5_leaves 13 = .ok (.iload 6, 2) := by decide +kernel
theorem dX5_leaves_15 : decode cX5_leaves 15 = .ok (.ishr, 1) := by decide +kernel
theorem dX5_leaves_16 : decode cX5_leaves 16 = .ok (.iconst 1, 1) := by decide +kernel
theorem dX5_leaves_17 : decode cX5_leaves 17 = .ok (.iand, 1) := by decide +kernel
theorem dX5_leaves_18 : decode cX5_leaves 18 = .ok (.iconst 1, 1) := by decide +kernel
theorem dX5_leaves_19 : decode cX5_leaves 19 = .ok (.if_icmp .ne 46, 3) := by decide +kernel
theorem dX5_leaves_22 : decode cX5_leaves 22 = .ok (.aload_n 0, 1) := by decide +kernel
theorem dX5_leaves_23 : decode cX5_leaves 23 = .ok (.iload_n 3, 1) := by decide +kernel
theorem dX5_leaves_24 : decode cX5_leaves 24 = .ok (.iload 6, 2) := by decide +kernel
theorem dX5_leaves_26 : decode cX5_leaves 26 = .ok (.invokevirtual 81, 3) := by decide +kernel
theorem dX5_leaves_29 : decode cX5_leaves 29 = .ok (.iload 5, 2) := by decide +kernel
theorem dX5_leaves_31 : decode cX5_leaves 31 = .ok (.aload_n 1, 1) := by decide +kernel
theorem dX5_leaves_32 : decode cX5_leaves 32 = .ok (.iload 4, 2) := by decide +kernel
theorem dX5_leaves_34 : decode cX5_leaves 34 = .ok (.iload 6, 2) := by decide +kernel
theorem dX5_leaves_36 : decode cX5_leaves 36 = .ok (.invokevirtual 38, 3) := by decide +kernel
theorem dX5_leaves_39 : decode cX5_leaves 39 = .ok (.invokestatic 66, 3) := by decide +kernel
theorem dX5_leaves_42 : decode cX5_leaves 42 = .ok (.iconst (-1), 1) := by decide +kernel
theorem dX5_leaves_43 : decode cX5_leaves 43 = .ok (.ixor, 1) := by decide +kernel
theorem dX5_leaves_44 : decode cX5_leaves 44 = .ok (.iand, 1) := by decide +kernel
theorem dX5_leaves_45 : decode cX5_leaves 45 = .ok (.istore 7, 2) := by decide +kernel
theorem dX5_leaves_47 : decode cX5_leaves 47 = .ok (.iload 7, 2) := by decide +kernel
theorem dX5_leaves_49 : decode cX5_leaves 49 = .ok (.ifCond .ne 5, 3) := by decide +kernel
theorem dX5_leaves_52 : decode cX5_leaves 52 = .ok (.iconst 0, 1) := by decide +kernel
theorem dX5_leaves_53 : decode cX5_leaves 53 = .ok (.ireturn, 1) := by decide +kernel
theorem dX5_leaves_54 : decode cX5_leaves 54 = .ok (.aload_n 0, 1) := by decide +kernel
theorem dX5_leaves_55 : decode cX5_leaves 55 = .ok (.iload_n 3, 1) := by decide +kernel
theorem dX5_leaves_56 : decode cX5_leaves 56 = .ok (.iconst 1, 1) := by decide +kernel
theorem dX5_leaves_57 : decode cX5_leaves 57 = .ok (.iadd, 1) := by decide +kernel
theorem dX5_leaves_58 : decode cX5_leaves 58 = .ok (.iload 6, 2) := by decide +kernel
theorem dX5_leaves_60 : decode cX5_leaves 60 = .ok (.iload 7, 2) := by decide +kernel
theorem dX5_leaves_62 : decode cX5_leaves 62 = .ok (.invokevirtual 69, 3) := by decide +kernel
theorem dX5_leaves_65 : decode cX5_leaves 65 = .ok (.iinc 6 1, 3) := by decide +kernel
theorem dX5_leaves_68 : decode cX5_leaves 68 = .ok (.goto (-65), 3) := by decide +kernel
theorem dX5_leaves_71 : decode cX5_leaves 71 = .ok (.iconst 1, 1) := by decide +kernel
theorem dX5_leaves_72 : decode cX5_leaves 72 = .ok (.ireturn, 1) := by decide +kernel
theorem dX5_leftAt_0 : decode cX5_leftAt 0 = .ok (.iload_n 1, 1) := by decide +kernel
theorem dX5_leftAt_1 : decode cX5_leftAt 1 = .ok (.bipush 8, 2) := by decide +kernel
theorem dX5_leftAt_3 : decode cX5_leftAt 3 = .ok (.imul, 1) := by decide +kernel
theorem dX5_leftAt_4 : decode cX5_leftAt 4 = .ok (.iload_n 2, 1) := by decide +kernel
theorem dX5_leftAt_5 : decode cX5_leftAt 5 = .ok (.iadd, 1) := by decide +kernel
theorem dX5_leftAt_6 : decode cX5_leftAt 6 = .ok (.istore_n 3, 1) := by decide +kernel
theorem dX5_leftAt_7 : decode cX5_leftAt 7 = .ok (.iload_n 3, 1) := by decide +kernel
theorem dX5_leftAt_8 : decode cX5_leftAt 8 = .ok (.ifCond .lt 21, 3) := by decide +kernel
theorem dX5_leftAt_11 : decode cX5_leftAt 11 = .ok (.iload_n 3, 1) := by decide +kernel
theorem dX5_leftAt_12 : decode cX5_leftAt 12 = .ok (.aload_n 0, 1) := by decide +kernel
theorem dX5_leftAt_13 : decode cX5_leftAt 13 = .ok (.getfield 15, 3) := by decide +kernel
theorem dX5_leftAt_16 : decode cX5_leftAt 16 = .ok (.arraylength, 1) := by decide +kernel
theorem dX5_leftAt_17 : decode cX5_leftAt 17 = .ok (.if_icmp .ge 12, 3) := by decide +kernel
theorem dX5_leftAt_20 : decode cX5_leftAt 20 = .ok (.aload_n 0, 1) := by decide +kernel
theorem dX5_leftAt_21 : decode cX5_leftAt 21 = .ok (.getfield 15, 3) := by decide +kernel
theorem dX5_leftAt_24 : decode cX5_leftAt 24 = .ok (.iload_n 3, 1) := by decide +kernel
theorem dX5_leftAt_25 : decode cX5_leftAt 25 = .ok (.iaload, 1) := by decide +kernel
theorem dX5_leftAt_26 : decode cX5_leftAt 26 = .ok (.goto 4, 3) := by decide +kernel
theorem dX5_leftAt_29 : decode cX5_leftAt 29 = .ok (.iconst 0, 1) := by decide +kernel
theorem dX5_leftAt_30 : decode cX5_leftAt 30 = .ok (.ireturn, 1) := by decide +kernel
theorem dX5_leave_0 : decode cX5_leave 0 = .ok (.iload_n 1, 1) := by decide +kernel
theorem dX5_leave_1 : decode cX5_leave 1 = .ok (.bipush 8, 2) := by decide +kernel
theorem dX5_leave_3 : decode cX5_leave 3 = .ok (.imul, 1) := by decide +kernel
theorem dX5_leave_4 : decode cX5_leave 4 = .ok (.iload_n 2, 1) := by decide +kernel
theorem dX5_leave_5 : decode cX5_leave 5 = .ok (.iadd, 1) := by decide +kernel
theorem dX5_leave_6 : decode cX5_leave 6 = .ok (.istore 4, 2) := by decide +kernel
theorem dX5_leave_8 : decode cX5_leave 8 = .ok (.iload 4, 2) := by decide +kernel
theorem dX5_leave_10 : decode cX5_leave 10 = .ok (.ifCond .lt 21, 3) := by decide +kernel
theorem dX5_leave_13 : decode cX5_leave 13 = .ok (.iload 4, 2) := by decide +kernel
theorem dX5_leave_15 : decode cX5_leave 15 = .ok (.aload_n 0, 1) := by decide +kernel
theorem dX5_leave_16 : decode cX5_leave 16 = .ok (.getfield 15, 3) := by decide +kernel
theorem dX5_leave_19 : decode cX5_leave 19 = .ok (.arraylength, 1) := by decide +kernel
theorem dX5_leave_20 : decode cX5_leave 20 = .ok (.if_icmp .ge 11, 3) := by decide +kernel
theorem dX5_leave_23 : decode cX5_leave 23 = .ok (.aload_n 0, 1) := by decide +kernel
theorem dX5_leave_24 : decode cX5_leave 24 = .ok (.getfield 15, 3) := by decide +kernel
theorem dX5_leave_27 : decode cX5_leave 27 = .ok (.iload 4, 2) := by decide +kernel
theorem dX5_leave_29 : decode cX5_leave 29 = .ok (.iload_n 3, 1) := by decide +kernel
theorem dX5_leave_30 : decode cX5_leave 30 = .ok (.iastore, 1) := by decide +kernel
theorem dX5_leave_31 : decode cX5_leave 31 = .ok (.return_, 1) := by decide +kernel
theorem dX6_init_0 : decode cX6_init 0 = .ok (.aload_n 0, 1) := by decide +kernel
theorem dX6_init_1 : decode cX6_init 1 = .ok (.invokespecial 5, 3) := by decide +kernel
theorem dX6_init_4 : decode cX6_init 4 = .ok (.aload_n 0, 1) := by decide +kernel
theorem dX6_init_5 : decode cX6_init 5 = .ok (.new 11, 3) := by decide +kernel
theorem dX6_init_8 : decode cX6_init 8 = .ok (.dup, 1) := by decide +kernel
theorem dX6_init_9 : decode cX6_init 9 = .ok (.invokespecial 13, 3) := by decide +kernel
theorem dX6_init_12 : decode cX6_init 12 = .ok (.putfield 14, 3) := by decide +kernel
theorem dX6_init_15 : decode cX6_init 15 = .ok (.aload_n 0, 1) := by decide +kernel
theorem dX6_init_16 : decode cX6_init 16 = .ok (.new 11, 3) := by decide +kernel
theorem dX6_init_19 : decode cX6_init 19 = .ok (.dup, 1) := by decide +kernel
theorem dX6_init_20 : decode cX6_init 20 = .ok (.invokespecial 13, 3) := by decide +kernel
theorem dX6_init_23 : decode cX6_init 23 = .ok (.putfield 18, 3) := by decide +kernel
theorem dX6_init_26 : decode cX6_init 26 = .ok (.aload_n 0, 1) := by decide +kernel
theorem dX6_init_27 : decode cX6_init 27 = .ok (.iconst 0, 1) := by decide +kernel
theorem dX6_init_28 : decode cX6_init 28 = .ok (.putfield 21, 3) := by decide +kernel
theorem dX6_init_31 : decode cX6_init 31 = .ok (.aload_n 0, 1) := by decide +kernel
theorem dX6_init_32 : decode cX6_init 32 = .ok (.new 25, 3) := by decide +kernel
theorem dX6_init_35 : decode cX6_init 35 = .ok (.dup, 1) := by decide +kernel
theorem dX6_init_36 : decode cX6_init 36 = .ok (.invokespecial 27, 3) := by decide +kernel
theorem dX6_init_39 : decode cX6_init 39 = .ok (.putfield 28, 3) := by decide +kernel
theorem dX6_init_42 : decode cX6_init 42 = .ok (.aload_n 0, 1) := by decide +kernel
theorem dX6_init_43 : decode cX6_init 43 = .ok (.new 32, 3) := by decide +kernel
theorem dX6_init_46 : decode cX6_init 46 = .ok (.dup, 1) := by decide +kernel
theorem dX6_init_47 : decode cX6_init 47 = .ok (.invokespecial 34, 3) := by decide +kernel
theorem dX6_init_50 : decode cX6_init 50 = .ok (.putfield 35, 3) := by decide +kernel
theorem dX6_init_53 : decode cX6_init 53 = .ok (.aload_n 0, 1) := by decide +kernel
theorem dX6_init_54 : decode cX6_init 54 = .ok (.new 39, 3) := by decide +kernel
theorem dX6_init_57 : decode cX6_init 57 = .ok (.dup, 1) := by decide +kernel
theorem dX6_init_58 : decode cX6_init 58 = .ok (.invokespecial 41, 3) := by decide +kernel
theorem dX6_init_61 : decode cX6_init 61 = .ok (.putfield 42, 3) := by decide +kernel
theorem dX6_init_64 : decode cX6_init 64 = .ok (.aload_n 0, 1) := by decide +kernel
theorem dX6_init_65 : decode cX6_init 65 = .ok (.bipush 6, 2) := by decide +kernel
theorem dX6_init_67 : decode cX6_init 67 = .ok (.anewarray 46, 3) := by decide +kernel
theorem dX6_init_70 : decode cX6_init 70 = .ok (.putfield 48, 3) := by decide +kernel
theorem dX6_init_73 : decode cX6_init 73 = .ok (.iconst 0, 1) := by decide +kernel
theorem dX6_init_74 : decode cX6_init 74 = .ok (.istore_n 1, 1) := by decide +kernel
theorem dX6_init_75 : decode cX6_init 75 = .ok (.iload_n 1, 1) := by decide +kernel
theorem dX6_init_76 : decode cX6_init 76 = .ok (.bipush 6, 2) := by decide +kernel
theorem dX6_init_78 : decode cX6_init 78 = .ok (.if_icmp .ge 22, 3) := by decide +kernel
theorem dX6_init_81 : decode cX6_init 81 = .ok (.aload_n 0, 1) := by decide +kernel
theorem dX6_init_82 : decode cX6_init 82 = .ok (.getfield 48, 3) := by decide +kernel
theorem dX6_init_85 : decode cX6_init 85 = .ok (.iload_n 1, 1) := by decide +kernel
theorem dX6_init_86 : decode cX6_init 86 = .ok (.new 46, 3) := by decide +kernel
theorem dX6_init_89 : decode cX6_init 89 = .ok (.dup, 1) := by decide +kernel
theorem dX6_init_90 : decode cX6_init 90 = .ok (.invokespecial 52, 3) := by decide +kernel
theorem dX6_init_93 : decode cX6_init 93 = .ok (.aastore, 1) := by decide +kernel
theorem dX6_init_94 : decode cX6_init 94 = .ok (.iinc 1 1, 3) := by decide +kernel
theorem dX6_init_97 : decode cX6_init 97 = .ok (.goto (-22), 3) := by decide +kernel
theorem dX6_init_100 : decode cX6_init 100 = .ok (.return_, 1) := by decide +kernel
theorem dX6_station_0 : decode cX6_station 0 = .ok (.iload_n 1, 1) := by decide +kernel
theorem dX6_station_1 : decode cX6_station 1 = .ok (.iload_n 2, 1) := by decide +kernel
theorem dX6_station_2 : decode cX6_station 2 = .ok (.invokestatic 53, 3) := by decide +kernel
theorem dX6_station_5 : decode cX6_station 5 = .ok (.ifCond .eq 18, 3) := by decide +kernel
theorem dX6_station_8 : decode cX6_station 8 = .ok (.aload_n 0, 1) := by decide +kernel
theorem dX6_station_9 : decode cX6_station 9 = .ok (.getfield 14, 3) := by decide +kernel
theorem dX6_station_12 : decode cX6_station 12 = .ok (.getfield 57, 3) := by decide +kernel
theorem dX6_station_15 : decode cX6_station 15 = .ok (.iload_n 1, 1) := by decide +kernel
theorem dX6_station_16 : decode cX6_station 16 = .ok (.iload_n 2, 1) := by decide +kernel
theorem dX6_station_17 : decode cX6_station 17 = .ok (.invokevirtual 60, 3) := by decide +kernel
theorem dX6_station_20 : decode cX6_station 20 = .ok (.goto 5, 3) := by decide +kernel
theorem dX6_station_23 : decode cX6_station 23 = .ok (.bipush (-2), 2) := by decide +kernel
theorem dX6_station_25 : decode cX6_station 25 = .ok (.ireturn, 1) := by decide +kernel
theorem dX6_rule_0 : decode cX6_rule 0 = .ok (.iload_n 1, 1) := by decide +kernel
theorem dX6_rule_1 : decode cX6_rule 1 = .ok (.invokestatic 64, 3) := by decide +kernel
theorem dX6_rule_4 : decode cX6_rule 4 = .ok (.ifCond .ne 5, 3) := by decide +kernel
theorem dX6_rule_7 : decode cX6_rule 7 = .ok (.iconst (-1), 1) := by decide +kernel
theorem dX6_rule_8 : decode cX6_rule 8 = .ok (.ireturn, 1) := by decide +kernel
theorem dX6_rule_9 : decode cX6_rule 9 = .ok (.iload_n 2, 1) := by decide +kernel
theorem dX6_rule_10 : decode cX6_rule 10 = .ok (.invokestatic 68, 3) := by decide +kernel
theorem dX6_rule_13 : decode cX6_rule 13 = .ok (.ifCond .eq 10, 3) := by decide +kernel
theorem dX6_rule_16 : decode cX6_rule 16 = .ok (.iload_n 3, 1) := by decide +kernel
theorem dX6_rule_17 : decode cX6_rule 17 = .ok (.invokestatic 71, 3) := by decide +kernel
theorem dX6_rule_20 : decode cX6_rule 20 = .ok (.ifCond .ne 6, 3) := by decide +kernel
theorem dX6_rule_23 : decode cX6_rule 23 = .ok (.bipush (-2), 2) := by decide +kernel
theorem dX6_rule_25 : decode cX6_rule 25 = .ok (.ireturn, 1) := by decide +kernel
theorem dX6_rule_26 : decode cX6_rule 26 = .ok (.aload_n 0, 1) := by decide +kernel
theorem dX6_rule_27 : decode cX6_rule 27 = .ok (.getfield 14, 3) := by decide +kernel
theorem dX6_rule_30 : decode cX6_rule 30 = .ok (.getfield 57, 3) := by decide +kernel
theorem dX6_rule_33 : decode cX6_rule 33 = .ok (.iload_n 1, 1) := by decide +kernel
theorem dX6_rule_34 : decode cX6_rule 34 = .ok (.iload_n 2, 1) := by decide +kernel
theorem dX6_rule_35 : decode cX6_rule 35 = .ok (.iload_n 3, 1) := by decide +kernel
theorem dX6_rule_36 : decode cX6_rule 36 = .ok (.invokevirtual 74, 3) := by decide +kernel
theorem dX6_rule_39 : decode cX6_rule 39 = .ok (.ireturn, 1) := by decide +kernel
theorem dX6_channel_0 : decode cX6_channel 0 = .ok (.aload_n 0, 1) := by decide +kernel
theorem dX6_channel_1 : decode cX6_channel 1 = .ok (.getfield 14, 3) := by decide +kernel
theorem dX6_channel_4 : decode cX6_channel 4 = .ok (.getfield 57, 3) := by decide +kernel
theorem dX6_channel_7 : decode cX6_channel 7 = .ok (.astore_n 3, 1) := by decide +kernel
theorem dX6_channel_8 : decode cX6_channel 8 = .ok (.aload_n 3, 1) := by decide +kernel
theorem dX6_channel_9 : decode cX6_channel 9 = .ok (.iload_n 1, 1) := by decide +kernel
theorem dX6_channel_10 : decode cX6_channel 10 = .ok (.invokevirtual 78, 3) := by decide +kernel
theorem dX6_channel_13 : decode cX6_channel 13 = .ok (.ifCond .ne 5, 3) := by decide +kernel
theorem dX6_channel_16 : decode cX6_channel 16 = .ok (.iconst (-1), 1) := by decide +kernel
theorem dX6_channel_17 : decode cX6_channel 17 = .ok (.ireturn, 1) := by decide +kernel
theorem dX6_channel_18 : decode cX6_channel 18 = .ok (.iload_n 2, 1) := by decide +kernel
theorem dX6_channel_19 : decode cX6_channel 19 = .ok (.iconst (-1), 1) := by decide +kernel
theorem dX6_channel_20 : decode cX6_channel 20 = .ok (.if_icmp .eq 13, 3) := by decide +kernel
theorem dX6_channel_23 : decode cX6_channel 23 = .ok (.iload_n 2, 1) := by decide +kernel
theorem dX6_channel_24 : decode cX6_channel 24 = .ok (.invokestatic 81, 3) := by decide +kernel
theorem dX6_channel_27 : decode cX6_channel 27 = .ok (.ifCond .ne 6, 3) := by decide +kernel
theorem dX6_channel_30 : decode cX6_channel 30 = .ok (.bipush (-2), 2) := by decide +kernel
theorem dX6_channel_32 : decode cX6_channel 32 = .ok (.ireturn, 1) := by decide +kernel
theorem dX6_channel_33 : decode cX6_channel 33 = .ok (.iload_n 2, 1) := by decide +kernel
theorem dX6_channel_34 : decode cX6_channel 34 = .ok (.iconst (-1), 1) := by decide +kernel
theorem dX6_channel_35 : decode cX6_channel 35 = .ok (.if_icmp .eq 14, 3) := by decide +kernel
theorem dX6_channel_38 : decode cX6_channel 38 = .ok (.aload_n 3, 1) := by decide +kernel
theorem dX6_channel_39 : decode cX6_channel 39 = .ok (.iload_n 1, 1) := by decide +kernel
theorem dX6_channel_40 : decode cX6_channel 40 = .ok (.invokevirtual 84, 3) := by decide +kernel
theorem dX6_channel_43 : decode cX6_channel 43 = .ok (.ifCond .eq 6, 3) := by decide +kernel
theorem dX6_channel_46 : decode cX6_channel 46 = .ok (.bipush (-3), 2) := by decide +kernel
theorem dX6_channel_48 : decode cX6_channel 48 = .ok (.ireturn, 1) := by decide +kernel
theorem dX6_channel_49 : decode cX6_channel 49 = .ok (.aload_n 3, 1) := by decide +kernel
theorem dX6_channel_50 : decode cX6_channel 50 = .ok (.iload_n 1, 1) := by decide +kernel
theorem dX6_channel_51 : decode cX6_channel 51 = .ok (.invokevirtual 87, 3) := by decide +kernel
theorem dX6_channel_54 : decode cX6_channel 54 = .ok (.istore 4, 2) := by decide +kernel
theorem dX6_channel_56 : decode cX6_channel 56 = .ok (.aload_n 3, 1) := by decide +kernel
theorem dX6_channel_57 : decode cX6_channel 57 = .ok (.iload_n 1, 1) := by decide +kernel
theorem dX6_channel_58 : decode cX6_channel 58 = .ok (.iload_n 2, 1) := by decide +kernel
theorem dX6_channel_59 : decode cX6_channel 59 = .ok (.invokevirtual 91, 3) := by decide +kernel
theorem dX6_channel_62 : decode cX6_channel 62 = .ok (.iload 4, 2) := by decide +kernel
theorem dX6_channel_64 : decode cX6_channel 64 = .ok (.ireturn, 1) := by decide +kernel
theorem dX6_fix_0 : decode cX6_fix 0 = .ok (.aload_n 0, 1) := by decide +kernel
theorem dX6_fix_1 : decode cX6_fix 1 = .ok (.getfield 14, 3) := by decide +kernel
theorem dX6_fix_4 : decode cX6_fix 4 = .ok (.getfield 57, 3) := by decide +kernel
theorem dX6_fix_7 : decode cX6_fix 7 = .ok (.astore_n 3, 1) := by decide +kernel
theorem dX6_fix_8 : decode cX6_fix 8 = .ok (.aload_n 3, 1) := by decide +kernel
theorem dX6_fix_9 : decode cX6_fix 9 = .ok (.iload_n 1, 1) := by decide +kernel
theorem dX6_fix_10 : decode cX6_fix 10 = .ok (.invokevirtual 78, 3) := by decide +kernel
theorem dX6_fix_13 : decode cX6_fix 13 = .ok (.ifCond .ne 5, 3) := by decide +kernel
theorem dX6_fix_16 : decode cX6_fix 16 = .ok (.iconst (-1), 1) := by decide +kernel
theorem dX6_fix_17 : decode cX6_fix 17 = .ok (.ireturn, 1) := by decide +kernel
theorem dX6_fix_18 : decode cX6_fix 18 = .ok (.aload_n 3, 1) := by decide +kernel
theorem dX6_fix_19 : decode cX6_fix 19 = .ok (.iload_n 1, 1) := by decide +kernel
theorem dX6_fix_20 : decode cX6_fix 20 = .ok (.invokevirtual 95, 3) := by decide +kernel
theorem dX6_fix_23 : decode cX6_fix 23 = .ok (.iconst (-1), 1) := by decide +kernel
theorem dX6_fix_24 : decode cX6_fix 24 = .ok (.if_icmp .ne 6, 3) := by decide +kernel
theorem dX6_fix_27 : decode cX6_fix 27 = .ok (.bipush (-3), 2) := by decide +kernel
theorem dX6_fix_29 : decode cX6_fix 29 = .ok (.ireturn, 1) := by decide +kernel
theorem dX6_fix_30 : decode cX6_fix 30 = .ok (.aload_n 3, 1) := by decide +kernel
theorem dX6_fix_31 : decode cX6_fix 31 = .ok (.iload_n 1, 1) := by decide +kernel
theorem dX6_fix_32 : decode cX6_fix 32 = .ok (.invokevirtual 84, 3) := by decide +kernel
theorem dX6_fix_35 : decode cX6_fix 35 = .ok (.ifCond .eq 7, 3) := by decide +kernel
theorem dX6_fix_38 : decode cX6_fix 38 = .ok (.iconst 1, 1) := by decide +kernel
theorem dX6_fix_39 : decode cX6_fix 39 = .ok (.goto 4, 3) := by decide +kernel
theorem dX6_fix_42 : decode cX6_fix 42 = .ok (.iconst 0, 1) := by decide +kernel
theorem dX6_fix_43 : decode cX6_fix 43 = .ok (.istore 4, 2) := by decide +kernel
theorem dX6_fix_45 : decode cX6_fix 45 = .ok (.aload_n 3, 1) := by decide +kernel
theorem dX6_fix_46 : decode cX6_fix 46 = .ok (.iload_n 1, 1) := by decide +kernel
theorem dX6_fix_47 : decode cX6_fix 47 = .ok (.iload_n 2, 1) := by decide +kernel
theorem dX6_fix_48 : decode cX6_fix 48 = .ok (.invokevirtual 98, 3) := by decide +kernel
theorem dX6_fix_51 : decode cX6_fix 51 = .ok (.iload 4, 2) := by decide +kernel
theorem dX6_fix_53 : decode cX6_fix 53 = .ok (.ireturn, 1) := by decide +kernel
theorem dX6_move_0 : decode cX6_move 0 = .ok (.aload_n 0, 1) := by decide +kernel
theorem dX6_move_1 : decode cX6_move 1 = .ok (.getfield 14, 3) := by decide +kernel
theorem dX6_move_4 : decode cX6_move 4 = .ok (.getfield 57, 3) := by decide +kernel
theorem dX6_move_7 : decode cX6_move 7 = .ok (.astore 4, 2) := by decide +kernel
theorem dX6_move_9 : decode cX6_move 9 = .ok (.aload 4, 2) := by decide +kernel
theorem dX6_move_11 : decode cX6_move 11 = .ok (.iload_n 1, 1) := by decide +kernel
theorem dX6_move_12 : decode cX6_move 12 = .ok (.invokevirtual 78, 3) := by decide +kernel
theorem dX6_move_15 : decode cX6_move 15 = .ok (.ifCond .ne 5, 3) := by decide +kernel
theorem dX6_move_18 : decode cX6_move 18 = .ok (.iconst (-1), 1) := by decide +kernel
theorem dX6_move_19 : decode cX6_move 19 = .ok (.ireturn, 1) := by decide +kernel
theorem dX6_move_20 : decode cX6_move 20 = .ok (.iload_n 2, 1) := by decide +kernel
theorem dX6_move_21 : decode cX6_move 21 = .ok (.iload_n 3, 1) := by decide +kernel
theorem dX6_move_22 : decode cX6_move 22 = .ok (.invokestatic 53, 3) := by decide +kernel
theorem dX6_move_25 : decode cX6_move 25 = .ok (.ifCond .ne 6, 3) := by decide +kernel
theorem dX6_move_28 : decode cX6_move 28 = .ok (.bipush (-2), 2) := by decide +kernel
theorem dX6_move_30 : decode cX6_move 30 = .ok (.ireturn, 1) := by decide +kernel
theorem dX6_move_31 : decode cX6_move 31 = .ok (.aload 4, 2) := by decide +kernel
theorem dX6_move_33 : decode cX6_move 33 = .ok (.iload_n 2, 1) := by decide +kernel
theorem dX6_move_34 : decode cX6_move 34 = .ok (.iload_n 3, 1) := by decide +kernel
theorem dX6_move_35 : decode cX6_move 35 = .ok (.invokevirtual 102, 3) := by decide +kernel
theorem dX6_move_38 : decode cX6_move 38 = .ok (.istore 5, 2) := by decide +kernel
theorem dX6_move_40 : decode cX6_move 40 = .ok (.iload 5, 2) := by decide +kernel
theorem dX6_move_42 : decode cX6_move 42 = .ok (.ifCond .lt 12, 3) := by decide +kernel
theorem dX6_move_45 : decode cX6_move 45 = .ok (.iload 5, 2) := by decide +kernel
theorem dX6_move_47 : decode cX6_move 47 = .ok (.iload_n 1, 1) := by decide +kernel
theorem dX6_move_48 : decode cX6_move 48 = .ok (.if_icmp .eq 6, 3) := by decide +kernel
theorem dX6_move_51 : decode cX6_move 51 = .ok (.bipush (-3), 2) := by decide +kernel
theorem dX6_move_53 : decode cX6_move 53 = .ok (.ireturn, 1) := by decide +kernel
theorem dX6_move_54 : decode cX6_move 54 = .ok (.aload 4, 2) := by decide +kernel
theorem dX6_move_56 : decode cX6_move 56 = .ok (.iload_n 1, 1) := by decide +kernel
theorem dX6_move_57 : decode cX6_move 57 = .ok (.iload_n 2, 1) := by decide +kernel
theorem dX6_move_58 : decode cX6_move 58 = .ok (.iload_n 3, 1) := by decide +kernel
theorem dX6_move_59 : decode cX6_move 59 = .ok (.invokevirtual 105, 3) := by decide +kernel
theorem dX6_move_62 : decode cX6_move 62 = .ok (.ireturn, 1) := by decide +kernel
theorem dX6_feed_0 : decode cX6_feed 0 = .ok (.iload_n 1, 1) := by decide +kernel
theorem dX6_feed_1 : decode cX6_feed 1 = .ok (.ifCond .lt 9, 3) := by decide +kernel
theorem dX6_feed_4 : decode cX6_feed 4 = .ok (.iload_n 1, 1) := by decide +kernel
theorem dX6_feed_5 : decode cX6_feed 5 = .ok (.bipush 127, 2) := by decide +kernel
theorem dX6_feed_7 : decode cX6_feed 7 = .ok (.if_icmp .le 8, 3) := by decide +kernel
theorem dX6_feed_10 : decode cX6_feed 10 = .ok (.bipush (-2), 2) := by decide +kernel
theorem dX6_feed_12 : decode cX6_feed 12 = .ok (.goto 11, 3) := by decide +kernel
theorem dX6_feed_15 : decode cX6_feed 15 = .ok (.aload_n 0, 1) := by decide +kernel
theorem dX6_feed_16 : decode cX6_feed 16 = .ok (.getfield 42, 3) := by decide +kernel
theorem dX6_feed_19 : decode cX6_feed 19 = .ok (.iload_n 1, 1) := by decide +kernel
theorem dX6_feed_20 : decode cX6_feed 20 = .ok (.invokevirtual 108, 3) := by decide +kernel
theorem dX6_feed_23 : decode cX6_feed 23 = .ok (.ireturn, 1) := by decide +kernel
theorem dX6_read_0 : decode cX6_read 0 = .ok (.aload_n 0, 1) := by decide +kernel
theorem dX6_read_1 : decode cX6_read 1 = .ok (.getfield 42, 3) := by decide +kernel
theorem dX6_read_4 : decode cX6_read 4 = .ok (.invokevirtual 111, 3) := by decide +kernel
theorem dX6_read_7 : decode cX6_read 7 = .ok (.istore_n 1, 1) := by decide +kernel
theorem dX6_read_8 : decode cX6_read 8 = .ok (.aload_n 0, 1) := by decide +kernel
theorem dX6_read_9 : decode cX6_read 9 = .ok (.getfield 42, 3) := by decide +kernel
theorem dX6_read_12 : decode cX6_read 12 = .ok (.invokevirtual 115, 3) := by decide +kernel
theorem dX6_read_15 : decode cX6_read 15 = .ok (.iload_n 1, 1) := by decide +kernel
theorem dX6_read_16 : decode cX6_read 16 = .ok (.ifCond .lt 8, 3) := by decide +kernel
theorem dX6_read_19 : decode cX6_read 19 = .ok (.bipush (-10), 2) := by decide +kernel
theorem dX6_read_21 : decode cX6_read 21 = .ok (.iload_n 1, 1) := by decide +kernel
theorem dX6_read_22 : decode cX6_read 22 = .ok (.isub, 1) := by decide +kernel
theorem dX6_read_23 : decode cX6_read 23 = .ok (.ireturn, 1) := by decide +kernel
theorem dX6_read_24 : decode cX6_read 24 = .ok (.iconst 0, 1) := by decide +kernel
theorem dX6_read_25 : decode cX6_read 25 = .ok (.istore_n 2, 1) := by decide +kernel
theorem dX6_read_26 : decode cX6_read 26 = .ok (.iconst 0, 1) := by decide +kernel
theorem dX6_read_27 : decode cX6_read 27 = .ok (.istore_n 3, 1) := by decide +kernel
theorem dX6_read_28 : decode cX6_read 28 = .ok (.iload_n 3, 1) := by decide +kernel
theorem dX6_read_29 : decode cX6_read 29 = .ok (.aload_n 0, 1) := by decide +kernel
theorem dX6_read_30 : decode cX6_read 30 = .ok (.getfield 42, 3) := by decide +kernel
theorem dX6_read_33 : decode cX6_read 33 = .ok (.invokevirtual 118, 3) := by decide +kernel
theorem dX6_read_36 : decode cX6_read 36 = .ok (.if_icmp .ge 85, 3) := by decide +kernel
theorem dX6_read_39 : decode cX6_read 39 = .ok (.aload_n 0, 1) := by decide +kernel
theorem dX6_read_40 : decode cX6_read 40 = .ok (.getfield 14, 3) := by decide +kernel
theorem dX6_read_43 : decode cX6_read 43 = .ok (.getfield 57, 3) := by decide +kernel
theorem dX6_read_46 : decode cX6_read 46 = .ok (.aload_n 0, 1) := by decide +kernel
theorem dX6_read_47 : decode cX6_read 47 = .ok (.getfield 42, 3) := by decide +kernel
theorem dX6_read_50 : decode cX6_read 50 = .ok (.iload_n 3, 1) := by decide +kernel
theorem dX6_read_51 : decode cX6_read 51 = .ok (.invokevirtual 121, 3) := by decide +kernel
theorem dX6_read_54 : decode cX6_read 54 = .ok (.aload_n 0, 1) := by decide +kernel
theorem dX6_read_55 : decode cX6_read 55 = .ok (.getfield 42, 3) := by decide +kernel
theorem dX6_read_58 : decode cX6_read 58 = .ok (.iload_n 3, 1) := by decide +kernel
theorem dX6_read_59 : decode cX6_read 59 = .ok (.invokevirtual 124, 3) := by decide +kernel
theorem dX6_read_62 : decode cX6_read 62 = .ok (.invokevirtual 60, 3) := by decide +kernel
theorem dX6_read_65 : decode cX6_read 65 = .ok (.istore 4, 2) := by decide +kernel
theorem dX6_read_67 : decode cX6_read 67 = .ok (.iload 4, 2) := by decide +kernel
theorem dX6_read_69 : decode cX6_read 69 = .ok (.ifCond .lt 46, 3) := by decide +kernel
theorem dX6_read_72 : decode cX6_read 72 = .ok (.aload_n 0, 1) := by decide +kernel
theorem dX6_read_73 : decode cX6_read 73 = .ok (.getfield 14, 3) := by decide +kernel
theorem dX6_read_76 : decode cX6_read 76 = .ok (.getfield 57, 3) := by decide +kernel
theorem dX6_read_79 : decode cX6_read 79 = .ok (.iload 4, 2) := by decide +kernel
theorem dX6_read_81 : decode cX6_read 81 = .ok (.aload_n 0, 1) := by decide +kernel
theorem dX6_read_82 : decode cX6_read 82 = .ok (.getfield 42, 3) := by decide +kernel
theorem dX6_read_85 : decode cX6_read 85 = .ok (.iload_n 3, 1) := by decide +kernel
theorem dX6_read_86 : decode cX6_read 86 = .ok (.invokevirtual 127, 3) := by decide +kernel
theorem dX6_read_89 : decode cX6_read 89 = .ok (.invokevirtual 91, 3) := by decide +kernel
theorem dX6_read_92 : decode cX6_read 92 = .ok (.aload_n 0, 1) := by decide +kernel
theorem dX6_read_93 : decode cX6_read 93 = .ok (.getfield 14, 3) := by decide +kernel
theorem dX6_read_96 : decode cX6_read 96 = .ok (.getfield 57, 3) := by decide +kernel
theorem dX6_read_99 : decode cX6_read 99 = .ok (.iload 4, 2) := by decide +kernel
theorem dX6_read_101 : decode cX6_read 101 = .ok (.aload_n 0, 1) := by decide +kernel
theorem dX6_read_102 : decode cX6_read 102 = .ok (.getfield 42, 3) := by decide +kernel
theorem dX6_read_105 : decode cX6_read 105 = .ok (.iload_n 3, 1) := by decide +kernel
theorem dX6_read_106 : decode cX6_read 106 = .ok (.invokevirtual 130, 3) := by decide +kernel
theorem dX6_read_109 : decode cX6_read 109 = .ok (.invokevirtual 98, 3) := by decide +kernel
theorem dX6_read_112 : decode cX6_read 112 = .ok (.iinc 2 1, 3) := by decide +kernel
theorem dX6_read_115 : decode cX6_read 115 = .ok (.iinc 3 1, 3) := by decide +kernel
theorem dX6_read_118 : decode cX6_read 118 = .ok (.goto (-90), 3) := by decide +kernel
theorem dX6_read_121 : decode cX6_read 121 = .ok (.iload_n 2, 1) := by decide +kernel
theorem dX6_read_122 : decode cX6_read 122 = .ok (.ireturn, 1) := by decide +kernel
theorem dX6_of_0 : decode cX6_of 0 = .ok (.aload_n 0, 1) := by decide +kernel
theorem dX6_of_1 : decode cX6_of 1 = .ok (.getfield 14, 3) := by decide +kernel
theorem dX6_of_4 : decode cX6_of 4 = .ok (.getfield 57, 3) := by decide +kernel
theorem dX6_of_7 : decode cX6_of 7 = .ok (.astore_n 3, 1) := by decide +kernel
theorem dX6_of_8 : decode cX6_of 8 = .ok (.aload_n 3, 1) := by decide +kernel
theorem dX6_of_9 : decode cX6_of 9 = .ok (.iload_n 1, 1) := by decide +kernel
theorem dX6_of_10 : decode cX6_of 10 = .ok (.invokevirtual 78, 3) := by decide +kernel
theorem dX6_of_13 : decode cX6_of 13 = .ok (.ifCond .ne 5, 3) := by decide +kernel
theorem dX6_of_16 : decode cX6_of 16 = .ok (.iconst (-1), 1) := by decide +kernel
theorem dX6_of_17 : decode cX6_of 17 = .ok (.ireturn, 1) := by decide +kernel
theorem dX6_of_18 : decode cX6_of 18 = .ok (.iload_n 2, 1) := by decide +kernel
theorem dX6_of_19 : decode cX6_of 19 = .ok (.tableswitch 107 0 7 #[45, 51, 57, 63, 77, 86, 95, 101], 45) := by decide +kernel
theorem dX6_of_64 : decode cX6_of 64 = .ok (.aload_n 3, 1) := by decide +kernel
theorem dX6_of_65 : decode cX6_of 65 = .ok (.iload_n 1, 1) := by decide +kernel
theorem dX6_of_66 : decode cX6_of 66 = .ok (.invokevirtual 133, 3) := by decide +kernel
theorem dX6_of_69 : decode cX6_of 69 = .ok (.ireturn, 1) := by decide +kernel
theorem dX6_of_70 : decode cX6_of 70 = .ok (.aload_n 3, 1) := by decide +kernel
theorem dX6_of_71 : decode cX6_of 71 = .ok (.iload_n 1, 1) := by decide +kernel
theorem dX6_of_72 : decode cX6_of 72 = .ok (.invokevirtual 134, 3) := by decide +kernel
theorem dX6_of_75 : decode cX6_of 75 = .ok (.ireturn, 1) := by decide +kernel
theorem dX6_of_76 : decode cX6_of 76 = .ok (.aload_n 3, 1) := by decide +kernel
theorem dX6_of_77 : decode cX6_of 77 = .ok (.iload_n 1, 1) := by decide +kernel
theorem dX6_of_78 : decode cX6_of 78 = .ok (.invokevirtual 87, 3) := by decide +kernel
theorem dX6_of_81 : decode cX6_of 81 = .ok (.ireturn, 1) := by decide +kernel
theorem dX6_of_82 : decode cX6_of 82 = .ok (.aload_n 3, 1) := by decide +kernel
theorem dX6_of_83 : decode cX6_of 83 = .ok (.iload_n 1, 1) := by decide +kernel
theorem dX6_of_84 : decode cX6_of 84 = .ok (.invokevirtual 84, 3) := by decide +kernel
theorem dX6_of_87 : decode cX6_of 87 = .ok (.ifCond .eq 7, 3) := by decide +kernel
theorem dX6_of_90 : decode cX6_of 90 = .ok (.iconst 1, 1) := by decide +kernel
theorem dX6_of_91 : decode cX6_of 91 = .ok (.goto 4, 3) := by decide +kernel
theorem dX6_of_94 : decode cX6_of 94 = .ok (.iconst 0, 1) := by decide +kernel
theorem dX6_of_95 : decode cX6_of 95 = .ok (.ireturn, 1) := by decide +kernel
theorem dX6_of_96 : decode cX6_of 96 = .ok (.aload_n 3, 1) := by decide +kernel
theorem dX6_of_97 : decode cX6_of 97 = .ok (.iload_n 1, 1) := by decide +kernel
theorem dX6_of_98 : decode cX6_of 98 = .ok (.invokevirtual 135, 3) := by decide +kernel
theorem dX6_of_101 : decode cX6_of 101 = .ok (.invokestatic 138, 3) := by decide +kernel
theorem dX6_of_104 : decode cX6_of 104 = .ok (.ireturn, 1) := by decide +kernel
theorem dX6_of_105 : decode cX6_of 105 = .ok (.aload_n 3, 1) := by decide +kernel
theorem dX6_of_106 : decode cX6_of 106 = .ok (.iload_n 1, 1) := by decide +kernel
theorem dX6_of_107 : decode cX6_of 107 = .ok (.invokevirtual 135, 3) := by decide +kernel
theorem dX6_of_110 : decode cX6_of 110 = .ok (.invokestatic 143, 3) := by decide +kernel
theorem dX6_of_113 : decode cX6_of 113 = .ok (.ireturn, 1) := by decide +kernel
theorem dX6_of_114 : decode cX6_of 114 = .ok (.aload_n 3, 1) := by decide +kernel
theorem dX6_of_115 : decode cX6_of 115 = .ok (.iload_n 1, 1) := by decide +kernel
theorem dX6_of_116 : decode cX6_of 116 = .ok (.invokevirtual 146, 3) := by decide +kernel
theorem dX6_of_119 : decode cX6_of 119 = .ok (.ireturn, 1) := by decide +kernel
theorem dX6_of_120 : decode cX6_of 120 = .ok (.aload_n 3, 1) := by decide +kernel
theorem dX6_of_121 : decode cX6_of 121 = .ok (.iload_n 1, 1) := by decide +kernel
theorem dX6_of_122 : decode cX6_of 122 = .ok (.invokevirtual 149, 3) := by decide +kernel
theorem dX6_of_125 : decode cX6_of 125 = .ok (.ireturn, 1) := by decide +kernel
theorem dX6_of_126 : decode cX6_of 126 = .ok (.iconst (-1), 1) := by decide +kernel
theorem dX6_of_127 : decode cX6_of 127 = .ok (.ireturn, 1) := by decide +kernel
theorem dX6_apart_0 : decode cX6_apart 0 = .ok (.aload_n 0, 1) := by decide +kernel
theorem dX6_apart_1 : decode cX6_apart 1 = .ok (.getfield 14, 3) := by decide +kernel
theorem dX6_apart_4 : decode cX6_apart 4 = .ok (.getfield 57, 3) := by decide +kernel
theorem dX6_apart_7 : decode cX6_apart 7 = .ok (.astore_n 3, 1) := by decide +kernel
theorem dX6_apart_8 : decode cX6_apart 8 = .ok (.iload_n 1, 1) := by decide +kernel
theorem dX6_apart_9 : decode cX6_apart 9 = .ok (.iload_n 2, 1) := by decide +kernel
theorem dX6_apart_10 : decode cX6_apart 10 = .ok (.if_icmp .eq 28, 3) := by decide +kernel
theorem dX6_apart_13 : decode cX6_apart 13 = .ok (.aload_n 3, 1) := by decide +kernel
theorem dX6_apart_14 : decode cX6_apart 14 = .ok (.iload_n 1, 1) := by decide +kernel
theorem dX6_apart_15 : decode cX6_apart 15 = .ok (.invokevirtual 78, 3) := by decide +kernel
theorem dX6_apart_18 : decode cX6_apart 18 = .ok (.ifCond .eq 20, 3) := by decide +kernel
theorem dX6_apart_21 : decode cX6_apart 21 = .ok (.aload_n 3, 1) := by decide +kernel
theorem dX6_apart_22 : decode cX6_apart 22 = .ok (.iload_n 2, 1) := by decide +kernel
theorem dX6_apart_23 : decode cX6_apart 23 = .ok (.invokevirtual 78, 3) := by decide +kernel
theorem dX6_apart_26 : decode cX6_apart 26 = .ok (.ifCond .eq 12, 3) := by decide +kernel
theorem dX6_apart_29 : decode cX6_apart 29 = .ok (.aload_n 3, 1) := by decide +kernel
theorem dX6_apart_30 : decode cX6_apart 30 = .ok (.iload_n 1, 1) := by decide +kernel
theorem dX6_apart_31 : decode cX6_apart 31 = .ok (.iload_n 2, 1) := by decide +kernel
theorem dX6_apart_32 : decode cX6_apart 32 = .ok (.invokevirtual 152, 3) := by decide +kernel
theorem dX6_apart_35 : decode cX6_apart 35 = .ok (.goto 4, 3) := by decide +kernel
theorem dX6_apart_38 : decode cX6_apart 38 = .ok (.iconst (-1), 1) := by decide +kernel
theorem dX6_apart_39 : decode cX6_apart 39 = .ok (.ireturn, 1) := by decide +kernel
theorem dX6_at_0 : decode cX6_at 0 = .ok (.iload_n 1, 1) := by decide +kernel
theorem dX6_at_1 : decode cX6_at 1 = .ok (.iload_n 2, 1) := by decide +kernel
theorem dX6_at_2 : decode cX6_at 2 = .ok (.invokestatic 53, 3) := by decide +kernel
theorem dX6_at_5 : decode cX6_at 5 = .ok (.ifCond .ne 6, 3) := by decide +kernel
theorem dX6_at_8 : decode cX6_at 8 = .ok (.bipush (-2), 2) := by decide +kernel
theorem dX6_at_10 : decode cX6_at 10 = .ok (.ireturn, 1) := by decide +kernel
theorem dX6_at_11 : decode cX6_at 11 = .ok (.aload_n 0, 1) := by decide +kernel
theorem dX6_at_12 : decode cX6_at 12 = .ok (.getfield 14, 3) := by decide +kernel
theorem dX6_at_15 : decode cX6_at 15 = .ok (.getfield 57, 3) := by decide +kernel
theorem dX6_at_18 : decode cX6_at 18 = .ok (.iload_n 1, 1) := by decide +kernel
theorem dX6_at_19 : decode cX6_at 19 = .ok (.iload_n 2, 1) := by decide +kernel
theorem dX6_at_20 : decode cX6_at 20 = .ok (.invokevirtual 102, 3) := by decide +kernel
theorem dX6_at_23 : decode cX6_at 23 = .ok (.istore_n 3, 1) := by decide +kernel
theorem dX6_at_24 : decode cX6_at 24 = .ok (.iload_n 3, 1) := by decide +kernel
theorem dX6_at_25 : decode cX6_at 25 = .ok (.ifCond .ge 8, 3) := by decide +kernel
theorem dX6_at_28 : decode cX6_at 28 = .ok (.bipush (-5), 2) := by decide +kernel
theorem dX6_at_30 : decode cX6_at 30 = .ok (.goto 4, 3) := by decide +kernel
theorem dX6_at_33 : decode cX6_at 33 = .ok (.iload_n 3, 1) := by decide +kernel
theorem dX6_at_34 : decode cX6_at 34 = .ok (.ireturn, 1) := by decide +kernel
theorem dX6_assign_0 : decode cX6_assign 0 = .ok (.aload_n 0, 1) := by decide +kernel
theorem dX6_assign_1 : decode cX6_assign 1 = .ok (.getfield 14, 3) := by decide +kernel
theorem dX6_assign_4 : decode cX6_assign 4 = .ok (.getfield 57, 3) := by decide +kernel
theorem dX6_assign_7 : decode cX6_assign 7 = .ok (.invokevirtual 155, 3) := by decide +kernel
theorem dX6_assign_10 : decode cX6_assign 10 = .ok (.ireturn, 1) := by decide +kernel
theorem dX6_exchange_0 : decode cX6_exchange 0 = .ok (.aload_n 0, 1) := by decide +kernel
theorem dX6_exchange_1 : decode cX6_exchange 1 = .ok (.getfield 14, 3) := by decide +kernel
theorem dX6_exchange_4 : decode cX6_exchange 4 = .ok (.getfield 57, 3) := by decide +kernel
theorem dX6_exchange_7 : decode cX6_exchange 7 = .ok (.astore_n 3, 1) := by decide +kernel
theorem dX6_exchange_8 : decode cX6_exchange 8 = .ok (.aload_n 3, 1) := by decide +kernel
theorem dX6_exchange_9 : decode cX6_exchange 9 = .ok (.iload_n 1, 1) := by decide +kernel
theorem dX6_exchange_10 : decode cX6_exchange 10 = .ok (.invokevirtual 78, 3) := by decide +kernel
theorem dX6_exchange_13 : decode cX6_exchange 13 = .ok (.ifCond .ne 5, 3) := by decide +kernel
theorem dX6_exchange_16 : decode cX6_exchange 16 = .ok (.iconst (-1), 1) := by decide +kernel
theorem dX6_exchange_17 : decode cX6_exchange 17 = .ok (.ireturn, 1) := by decide +kernel
theorem dX6_exchange_18 : decode cX6_exchange 18 = .ok (.iload_n 2, 1) := by decide +kernel
theorem dX6_exchange_19 : decode cX6_exchange 19 = .ok (.invokestatic 81, 3) := by decide +kernel
theorem dX6_exchange_22 : decode cX6_exchange 22 = .ok (.ifCond .ne 6, 3) := by decide +kernel
theorem dX6_exchange_25 : decode cX6_exchange 25 = .ok (.bipush (-2), 2) := by decide +kernel
theorem dX6_exchange_27 : decode cX6_exchange 27 = .ok (.ireturn, 1) := by decide +kernel
theorem dX6_exchange_28 : decode cX6_exchange 28 = .ok (.aload_n 3, 1) := by decide +kernel
theorem dX6_exchange_29 : decode cX6_exchange 29 = .ok (.iload_n 1, 1) := by decide +kernel
theorem dX6_exchange_30 : decode cX6_exchange 30 = .ok (.invokevirtual 95, 3) := by decide +kernel
theorem dX6_exchange_33 : decode cX6_exchange 33 = .ok (.iconst (-1), 1) := by decide +kernel
theorem dX6_exchange_34 : decode cX6_exchange 34 = .ok (.if_icmp .eq 12, 3) := by decide +kernel
theorem dX6_exchange_37 : decode cX6_exchange 37 = .ok (.aload_n 3, 1) := by decide +kernel
theorem dX6_exchange_38 : decode cX6_exchange 38 = .ok (.iload_n 1, 1) := by decide +kernel
theorem dX6_exchange_39 : decode cX6_exchange 39 = .ok (.invokevirtual 95, 3) := by decide +kernel
theorem dX6_exchange_42 : decode cX6_exchange 42 = .ok (.iload_n 2, 1) := by decide +kernel
theorem dX6_exchange_43 : decode cX6_exchange 43 = .ok (.if_icmp .ne 6, 3) := by decide +kernel
theorem dX6_exchange_46 : decode cX6_exchange 46 = .ok (.bipush (-3), 2) := by decide +kernel
theorem dX6_exchange_48 : decode cX6_exchange 48 = .ok (.ireturn, 1) := by decide +kernel
theorem dX6_exchange_49 : decode cX6_exchange 49 = .ok (.aload_n 3, 1) := by decide +kernel
theorem dX6_exchange_50 : decode cX6_exchange 50 = .ok (.iload_n 1, 1) := by decide +kernel
theorem dX6_exchange_51 : decode cX6_exchange 51 = .ok (.iload_n 2, 1) := by decide +kernel
theorem dX6_exchange_52 : decode cX6_exchange 52 = .ok (.invokevirtual 158, 3) := by decide +kernel
theorem dX6_exchange_55 : decode cX6_exchange 55 = .ok (.ireturn, 1) := by decide +kernel
theorem dX6_told_0 : decode cX6_told 0 = .ok (.aload_n 0, 1) := by decide +kernel
theorem dX6_told_1 : decode cX6_told 1 = .ok (.getfield 14, 3) := by decide +kernel
theorem dX6_told_4 : decode cX6_told 4 = .ok (.getfield 57, 3) := by decide +kernel
theorem dX6_told_7 : decode cX6_told 7 = .ok (.astore_n 2, 1) := by decide +kernel
theorem dX6_told_8 : decode cX6_told 8 = .ok (.iload_n 1, 1) := by decide +kernel
theorem dX6_told_9 : decode cX6_told 9 = .ok (.tableswitch 127 0 8 #[51, 56, 61, 66, 75, 84, 109, 114, 122], 51) := by decide +kernel
theorem dX6_told_60 : decode cX6_told 60 = .ok (.aload_n 2, 1) := by decide +kernel
theorem dX6_told_61 : decode cX6_told 61 = .ok (.invokevirtual 161, 3) := by decide +kernel
theorem dX6_told_64 : decode cX6_told 64 = .ok (.ireturn, 1) := by decide +kernel
theorem dX6_told_65 : decode cX6_told 65 = .ok (.aload_n 2, 1) := by decide +kernel
theorem dX6_told_66 : decode cX6_told 66 = .ok (.invokevirtual 164, 3) := by decide +kernel
theorem dX6_told_69 : decode cX6_told 69 = .ok (.ireturn, 1) := by decide +kernel
theorem dX6_told_70 : decode cX6_told 70 = .ok (.aload_n 2, 1) := by decide +kernel
theorem dX6_told_71 : decode cX6_told 71 = .ok (.invokevirtual 167, 3) := by decide +kernel
theorem dX6_told_74 : decode cX6_told 74 = .ok (.ireturn, 1) := by decide +kernel
theorem dX6_told_75 : decode cX6_told 75 = .ok (.aload_n 0, 1) := by decide +kernel
theorem dX6_told_76 : decode cX6_told 76 = .ok (.getfield 35, 3) := by decide +kernel
theorem dX6_told_79 : decode cX6_told 79 = .ok (.aload_n 2, 1) := by decide +kernel
theorem dX6_told_80 : decode cX6_told 80 = .ok (.invokevirtual 170, 3) := by decide +kernel
theorem dX6_told_83 : decode cX6_told 83 = .ok (.ireturn, 1) := by decide +kernel
theorem dX6_told_84 : decode cX6_told 84 = .ok (.aload_n 0, 1) := by decide +kernel
theorem dX6_told_85 : decode cX6_told 85 = .ok (.getfield 35, 3) := by decide +kernel
theorem dX6_told_88 : decode cX6_told 88 = .ok (.aload_n 2, 1) := by decide +kernel
theorem dX6_told_89 : decode cX6_told 89 = .ok (.invokevirtual 174, 3) := by decide +kernel
theorem dX6_told_92 : decode cX6_told 92 = .ok (.ireturn, 1) := by decide +kernel
theorem dX6_told_93 : decode cX6_told 93 = .ok (.aload_n 0, 1) := by decide +kernel
theorem dX6_told_94 : decode cX6_told 94 = .ok (.getfield 35, 3) := by decide +kernel
theorem dX6_told_97 : decode cX6_told 97 = .ok (.aload_n 2, 1) := by decide +kernel
theorem dX6_told_98 : decode cX6_told 98 = .ok (.invokevirtual 174, 3) := by decide +kernel
theorem dX6_told_101 : decode cX6_told 101 = .ok (.aload_n 0, 1) := by decide +kernel
theorem dX6_told_102 : decode cX6_told 102 = .ok (.getfield 35, 3) := by decide +kernel
theorem dX6_told_105 : decode cX6_told 105 = .ok (.aload_n 2, 1) := by decide +kernel
theorem dX6_told_106 : decode cX6_told 106 = .ok (.invokevirtual 170, 3) := by decide +kernel
theorem dX6_told_109 : decode cX6_told 109 = .ok (.if_icmp .ne 7, 3) := by decide +kernel
theorem dX6_told_112 : decode cX6_told 112 = .ok (.iconst 1, 1) := by decide +kernel
theorem dX6_told_113 : decode cX6_told 113 = .ok (.goto 4, 3) := by decide +kernel
theorem dX6_told_116 : decode cX6_told 116 = .ok (.iconst 0, 1) := by decide +kernel
theorem dX6_told_117 : decode cX6_told 117 = .ok (.ireturn, 1) := by decide +kernel
theorem dX6_told_118 : decode cX6_told 118 = .ok (.aload_n 2, 1) := by decide +kernel
theorem dX6_told_119 : decode cX6_told 119 = .ok (.invokevirtual 177, 3) := by decide +kernel
theorem dX6_told_122 : decode cX6_told 122 = .ok (.ireturn, 1) := by decide +kernel
theorem dX6_told_123 : decode cX6_told 123 = .ok (.aload_n 2, 1) := by decide +kernel
theorem dX6_told_124 : decode cX6_told 124 = .ok (.invokevirtual 180, 3) := by decide +kernel
theorem dX6_told_127 : decode cX6_told 127 = .ok (.invokestatic 138, 3) := by decide +kernel
theorem dX6_told_130 : decode cX6_told 130 = .ok (.ireturn, 1) := by decide +kernel
theorem dX6_told_131 : decode cX6_told 131 = .ok (.aload_n 2, 1) := by decide +kernel
theorem dX6_told_132 : decode cX6_told 132 = .ok (.invokevirtual 183, 3) := by decide +kernel
theorem dX6_told_135 : decode cX6_told 135 = .ok (.ireturn, 1) := by decide +kernel
theorem dX6_told_136 : decode cX6_told 136 = .ok (.iconst (-1), 1) := by decide +kernel
theorem dX6_told_137 : decode cX6_told 137 = .ok (.ireturn, 1) := by decide +kernel
theorem dX6_clique_0 : decode cX6_clique 0 = .ok (.iload_n 1, 1) := by decide +kernel
theorem dX6_clique_1 : decode cX6_clique 1 = .ok (.invokestatic 71, 3) := by decide +kernel
theorem dX6_clique_4 : decode cX6_clique 4 = .ok (.ifCond .eq 21, 3) := by decide +kernel
theorem dX6_clique_7 : decode cX6_clique 7 = .ok (.aload_n 0, 1) := by decide +kernel
theorem dX6_clique_8 : decode cX6_clique 8 = .ok (.getfield 35, 3) := by decide +kernel
theorem dX6_clique_11 : decode cX6_clique 11 = .ok (.aload_n 0, 1) := by decide +kernel
theorem dX6_clique_12 : decode cX6_clique 12 = .ok (.getfield 14, 3) := by decide +kernel
theorem dX6_clique_15 : decode cX6_clique 15 = .ok (.getfield 57, 3) := by decide +kernel
theorem dX6_clique_18 : decode cX6_clique 18 = .ok (.iload_n 1, 1) := by decide +kernel
theorem dX6_clique_19 : decode cX6_clique 19 = .ok (.invokevirtual 186, 3) := by decide +kernel
theorem dX6_clique_22 : decode cX6_clique 22 = .ok (.goto 5, 3) := by decide +kernel
theorem dX6_clique_25 : decode cX6_clique 25 = .ok (.bipush (-2), 2) := by decide +kernel
theorem dX6_clique_27 : decode cX6_clique 27 = .ok (.ireturn, 1) := by decide +kernel
theorem dX6_sorted_0 : decode cX6_sorted 0 = .ok (.iload_n 1, 1) := by decide +kernel
theorem dX6_sorted_1 : decode cX6_sorted 1 = .ok (.ifCond .ge 7, 3) := by decide +kernel
theorem dX6_sorted_4 : decode cX6_sorted 4 = .ok (.iconst (-1), 1) := by decide +kernel
theorem dX6_sorted_5 : decode cX6_sorted 5 = .ok (.goto 14, 3) := by decide +kernel
theorem dX6_sorted_8 : decode cX6_sorted 8 = .ok (.aload_n 0, 1) := by decide +kernel
theorem dX6_sorted_9 : decode cX6_sorted 9 = .ok (.getfield 14, 3) := by decide +kernel
theorem dX6_sorted_12 : decode cX6_sorted 12 = .ok (.getfield 57, 3) := by decide +kernel
theorem dX6_sorted_15 : decode cX6_sorted 15 = .ok (.iload_n 1, 1) := by decide +kernel
theorem dX6_sorted_16 : decode cX6_sorted 16 = .ok (.invokevirtual 190, 3) := by decide +kernel
theorem dX6_sorted_19 : decode cX6_sorted 19 = .ok (.ireturn, 1) := by decide +kernel
theorem dX6_see_0 : decode cX6_see 0 = .ok (.iload_n 1, 1) := by decide +kernel
theorem dX6_see_1 : decode cX6_see 1 = .ok (.iconst (-1), 1) := by decide +kernel
theorem dX6_see_2 : decode cX6_see 2 = .ok (.if_icmp .ne 14, 3) := by decide +kernel
theorem dX6_see_5 : decode cX6_see 5 = .ok (.aload_n 0, 1) := by decide +kernel
theorem dX6_see_6 : decode cX6_see 6 = .ok (.getfield 14, 3) := by decide +kernel
theorem dX6_see_9 : decode cX6_see 9 = .ok (.getfield 193, 3) := by decide +kernel
theorem dX6_see_12 : decode cX6_see 12 = .ok (.invokevirtual 197, 3) := by decide +kernel
theorem dX6_see_15 : decode cX6_see 15 = .ok (.ireturn, 1) := by decide +kernel
theorem dX6_see_16 : decode cX6_see 16 = .ok (.aload_n 0, 1) := by decide +kernel
theorem dX6_see_17 : decode cX6_see 17 = .ok (.getfield 14, 3) := by decide +kernel
theorem dX6_see_20 : decode cX6_see 20 = .ok (.getfield 57, 3) := by decide +kernel
theorem dX6_see_23 : decode cX6_see 23 = .ok (.iload_n 1, 1) := by decide +kernel
theorem dX6_see_24 : decode cX6_see 24 = .ok (.invokevirtual 78, 3) := by decide +kernel
theorem dX6_see_27 : decode cX6_see 27 = .ok (.ifCond .ne 5, 3) := by decide +kernel
theorem dX6_see_30 : decode cX6_see 30 = .ok (.iconst (-1), 1) := by decide +kernel
theorem dX6_see_31 : decode cX6_see 31 = .ok (.ireturn, 1) := by decide +kernel
theorem dX6_see_32 : decode cX6_see 32 = .ok (.iload_n 2, 1) := by decide +kernel
theorem dX6_see_33 : decode cX6_see 33 = .ok (.invokestatic 81, 3) := by decide +kernel
theorem dX6_see_36 : decode cX6_see 36 = .ok (.ifCond .eq 18, 3) := by decide +kernel
theorem dX6_see_39 : decode cX6_see 39 = .ok (.aload_n 0, 1) := by decide +kernel
theorem dX6_see_40 : decode cX6_see 40 = .ok (.getfield 14, 3) := by decide +kernel
theorem dX6_see_43 : decode cX6_see 43 = .ok (.getfield 193, 3) := by decide +kernel
theorem dX6_see_46 : decode cX6_see 46 = .ok (.iload_n 1, 1) := by decide +kernel
theorem dX6_see_47 : decode cX6_see 47 = .ok (.iload_n 2, 1) := by decide +kernel
theorem dX6_see_48 : decode cX6_see 48 = .ok (.invokevirtual 201, 3) := by decide +kernel
theorem dX6_see_51 : decode cX6_see 51 = .ok (.goto 5, 3) := by decide +kernel
theorem dX6_see_54 : decode cX6_see 54 = .ok (.bipush (-2), 2) := by decide +kernel
theorem dX6_see_56 : decode cX6_see 56 = .ok (.ireturn, 1) := by decide +kernel
theorem dX6_fits_0 : decode cX6_fits 0 = .ok (.iload_n 1, 1) := by decide +kernel
theorem dX6_fits_1 : decode cX6_fits 1 = .ok (.invokestatic 64, 3) := by decide +kernel
theorem dX6_fits_4 : decode cX6_fits 4 = .ok (.ifCond .eq 12, 3) := by decide +kernel
theorem dX6_fits_7 : decode cX6_fits 7 = .ok (.iload_n 2, 1) := by decide +kernel
theorem dX6_fits_8 : decode cX6_fits 8 = .ok (.ifCond .lt 8, 3) := by decide +kernel
theorem dX6_fits_11 : decode cX6_fits 11 = .ok (.iload_n 2, 1) := by decide +kernel
theorem dX6_fits_12 : decode cX6_fits 12 = .ok (.iconst 1, 1) := by decide +kernel
theorem dX6_fits_13 : decode cX6_fits 13 = .ok (.if_icmp .le 5, 3) := by decide +kernel
theorem dX6_fits_16 : decode cX6_fits 16 = .ok (.iconst (-1), 1) := by decide +kernel
theorem dX6_fits_17 : decode cX6_fits 17 = .ok (.ireturn, 1) := by decide +kernel
theorem dX6_fits_18 : decode cX6_fits 18 = .ok (.aload_n 0, 1) := by decide +kernel
theorem dX6_fits_19 : decode cX6_fits 19 = .ok (.getfield 28, 3) := by decide +kernel
theorem dX6_fits_22 : decode cX6_fits 22 = .ok (.aload_n 0, 1) := by decide +kernel
theorem dX6_fits_23 : decode cX6_fits 23 = .ok (.getfield 14, 3) := by decide +kernel
theorem dX6_fits_26 : decode cX6_fits 26 = .ok (.getfield 57, 3) := by decide +kernel
theorem dX6_fits_29 : decode cX6_fits 29 = .ok (.invokevirtual 203, 3) := by decide +kernel
theorem dX6_fits_32 : decode cX6_fits 32 = .ok (.iconst 0, 1) := by decide +kernel
theorem dX6_fits_33 : decode cX6_fits 33 = .ok (.istore_n 3, 1) := by decide +kernel
theorem dX6_fits_34 : decode cX6_fits 34 = .ok (.bipush (-5), 2) := by decide +kernel
theorem dX6_fits_36 : decode cX6_fits 36 = .ok (.istore 4, 2) := by decide +kernel
theorem dX6_fits_38 : decode cX6_fits 38 = .ok (.iconst 0, 1) := by decide +kernel
theorem dX6_fits_39 : decode cX6_fits 39 = .ok (.istore 5, 2) := by decide +kernel
theorem dX6_fits_41 : decode cX6_fits 41 = .ok (.iconst 1, 1) := by decide +kernel
theorem dX6_fits_42 : decode cX6_fits 42 = .ok (.istore 6, 2) := by decide +kernel
theorem dX6_fits_44 : decode cX6_fits 44 = .ok (.iload 6, 2) := by decide +kernel
theorem dX6_fits_46 : decode cX6_fits 46 = .ok (.bipush 40, 2) := by decide +kernel
theorem dX6_fits_48 : decode cX6_fits 48 = .ok (.if_icmp .gt 96, 3) := by decide +kernel
theorem dX6_fits_51 : decode cX6_fits 51 = .ok (.aload_n 0, 1) := by decide +kernel
theorem dX6_fits_52 : decode cX6_fits 52 = .ok (.getfield 28, 3) := by decide +kernel
theorem dX6_fits_55 : decode cX6_fits 55 = .ok (.iload_n 1, 1) := by decide +kernel
theorem dX6_fits_56 : decode cX6_fits 56 = .ok (.iload 6, 2) := by decide +kernel
theorem dX6_fits_58 : decode cX6_fits 58 = .ok (.invokevirtual 207, 3) := by decide +kernel
theorem dX6_fits_61 : decode cX6_fits 61 = .ok (.ifCond .ne 9, 3) := by decide +kernel
theorem dX6_fits_64 : decode cX6_fits 64 = .ok (.iload 6, 2) := by decide +kernel
theorem dX6_fits_66 : decode cX6_fits 66 = .ok (.iconst 1, 1) := by decide +kernel
theorem dX6_fits_67 : decode cX6_fits 67 = .ok (.if_icmp .ne 37, 3) := by decide +kernel
theorem dX6_fits_70 : decode cX6_fits 70 = .ok (.aload_n 0, 1) := by decide +kernel
theorem dX6_fits_71 : decode cX6_fits 71 = .ok (.getfield 28, 3) := by decide +kernel
theorem dX6_fits_74 : decode cX6_fits 74 = .ok (.invokevirtual 155, 3) := by decide +kernel
theorem dX6_fits_77 : decode cX6_fits 77 = .ok (.pop, 1) := by decide +kernel
theorem dX6_fits_78 : decode cX6_fits 78 = .ok (.aload_n 0, 1) := by decide +kernel
theorem dX6_fits_79 : decode cX6_fits 79 = .ok (.getfield 14, 3) := by decide +kernel
theorem dX6_fits_82 : decode cX6_fits 82 = .ok (.getfield 193, 3) := by decide +kernel
theorem dX6_fits_85 : decode cX6_fits 85 = .ok (.aload_n 0, 1) := by decide +kernel
theorem dX6_fits_86 : decode cX6_fits 86 = .ok (.getfield 28, 3) := by decide +kernel
theorem dX6_fits_89 : decode cX6_fits 89 = .ok (.invokestatic 210, 3) := by decide +kernel
theorem dX6_fits_92 : decode cX6_fits 92 = .ok (.bipush (-5), 2) := by decide +kernel
theorem dX6_fits_94 : decode cX6_fits 94 = .ok (.if_icmp .ne 7, 3) := by decide +kernel
theorem dX6_fits_97 : decode cX6_fits 97 = .ok (.iconst 1, 1) := by decide +kernel
theorem dX6_fits_98 : decode cX6_fits 98 = .ok (.goto 4, 3) := by decide +kernel
theorem dX6_fits_101 : decode cX6_fits 101 = .ok (.iconst 0, 1) := by decide +kernel
theorem dX6_fits_102 : decode cX6_fits 102 = .ok (.istore 5, 2) := by decide +kernel
theorem dX6_fits_104 : decode cX6_fits 104 = .ok (.iload_n 3, 1) := by decide +kernel
theorem dX6_fits_105 : decode cX6_fits 105 = .ok (.iload 5, 2) := by decide +kernel
theorem dX6_fits_107 : decode cX6_fits 107 = .ok (.ifCond .eq 7, 3) := by decide +kernel
theorem dX6_fits_110 : decode cX6_fits 110 = .ok (.iconst 1, 1) := by decide +kernel
theorem dX6_fits_111 : decode cX6_fits 111 = .ok (.goto 4, 3) := by decide +kernel
theorem dX6_fits_114 : decode cX6_fits 114 = .ok (.iconst 0, 1) := by decide +kernel
theorem dX6_fits_115 : decode cX6_fits 115 = .ok (.iadd, 1) := by decide +kernel
theorem dX6_fits_116 : decode cX6_fits 116 = .ok (.istore_n 3, 1) := by decide +kernel
theorem dX6_fits_117 : decode cX6_fits 117 = .ok (.iload 5, 2) := by decide +kernel
theorem dX6_fits_119 : decode cX6_fits 119 = .ok (.ifCond .eq 15, 3) := by decide +kernel
theorem dX6_fits_122 : decode cX6_fits 122 = .ok (.iload 4, 2) := by decide +kernel
theorem dX6_fits_124 : decode cX6_fits 124 = .ok (.bipush (-5), 2) := by decide +kernel
theorem dX6_fits_126 : decode cX6_fits 126 = .ok (.if_icmp .ne 8, 3) := by decide +kernel
theorem dX6_fits_129 : decode cX6_fits 129 = .ok (.iload 6, 2) := by decide +kernel
theorem dX6_fits_131 : decode cX6_fits 131 = .ok (.goto 5, 3) := by decide +kernel
theorem dX6_fits_134 : decode cX6_fits 134 = .ok (.iload 4, 2) := by decide +kernel
theorem dX6_fits_136 : decode cX6_fits 136 = .ok (.istore 4, 2) := by decide +kernel
theorem dX6_fits_138 : decode cX6_fits 138 = .ok (.iinc 6 1, 3) := by decide +kernel
theorem dX6_fits_141 : decode cX6_fits 141 = .ok (.goto (-97), 3) := by decide +kernel
theorem dX6_fits_144 : decode cX6_fits 144 = .ok (.iload_n 2, 1) := by decide +kernel
theorem dX6_fits_145 : decode cX6_fits 145 = .ok (.ifCond .ne 7, 3) := by decide +kernel
theorem dX6_fits_148 : decode cX6_fits 148 = .ok (.iload_n 3, 1) := by decide +kernel
theorem dX6_fits_149 : decode cX6_fits 149 = .ok (.goto 5, 3) := by decide +kernel
theorem dX6_fits_152 : decode cX6_fits 152 = .ok (.iload 4, 2) := by decide +kernel
theorem dX6_fits_154 : decode cX6_fits 154 = .ok (.ireturn, 1) := by decide +kernel
theorem dX6_odds_0 : decode cX6_odds 0 = .ok (.aload_n 0, 1) := by decide +kernel
theorem dX6_odds_1 : decode cX6_odds 1 = .ok (.getfield 14, 3) := by decide +kernel
theorem dX6_odds_4 : decode cX6_odds 4 = .ok (.getfield 57, 3) := by decide +kernel
theorem dX6_odds_7 : decode cX6_odds 7 = .ok (.iload_n 1, 1) := by decide +kernel
theorem dX6_odds_8 : decode cX6_odds 8 = .ok (.invokevirtual 78, 3) := by decide +kernel
theorem dX6_odds_11 : decode cX6_odds 11 = .ok (.ifCond .eq 10, 3) := by decide +kernel
theorem dX6_odds_14 : decode cX6_odds 14 = .ok (.iload_n 2, 1) := by decide +kernel
theorem dX6_odds_15 : decode cX6_odds 15 = .ok (.invokestatic 214, 3) := by decide +kernel
theorem dX6_odds_18 : decode cX6_odds 18 = .ok (.ifCond .ne 7, 3) := by decide +kernel
theorem dX6_odds_21 : decode cX6_odds 21 = .ok (.ldc2_w 217, 3) := by decide +kernel
theorem dX6_odds_24 : decode cX6_odds 24 = .ok (.lreturn, 1) := by decide +kernel
theorem dX6_odds_25 : decode cX6_odds 25 = .ok (.aload_n 0, 1) := by decide +kernel
theorem dX6_odds_26 : decode cX6_odds 26 = .ok (.getfield 28, 3) := by decide +kernel
theorem dX6_odds_29 : decode cX6_odds 29 = .ok (.aload_n 0, 1) := by decide +kernel
theorem dX6_odds_30 : decode cX6_odds 30 = .ok (.getfield 14, 3) := by decide +kernel
theorem dX6_odds_33 : decode cX6_odds 33 = .ok (.getfield 57, 3) := by decide +kernel
theorem dX6_odds_36 : decode cX6_odds 36 = .ok (.invokevirtual 203, 3) := by decide +kernel
theorem dX6_odds_39 : decode cX6_odds 39 = .ok (.iconst 0, 1) := by decide +kernel
theorem dX6_odds_40 : decode cX6_odds 40 = .ok (.istore_n 3, 1) := by decide +kernel
theorem dX6_odds_41 : decode cX6_odds 41 = .ok (.iconst 0, 1) := by decide +kernel
theorem dX6_odds_42 : decode cX6_odds 42 = .ok (.istore 4, 2) := by decide +kernel
theorem dX6_odds_44 : decode cX6_odds 44 = .ok (.iload 4, 2) := by decide +kernel
theorem dX6_odds_46 : decode cX6_odds 46 = .ok (.bipush 10, 2) := by decide +kernel
theorem dX6_odds_48 : decode cX6_odds 48 = .ok (.if_icmp .ge 51, 3) := by decide +kernel
theorem dX6_odds_51 : decode cX6_odds 51 = .ok (.aload_n 0, 1) := by decide +kernel
theorem dX6_odds_52 : decode cX6_odds 52 = .ok (.getfield 28, 3) := by decide +kernel
theorem dX6_odds_55 : decode cX6_odds 55 = .ok (.iload_n 1, 1) := by decide +kernel
theorem dX6_odds_56 : decode cX6_odds 56 = .ok (.iload 4, 2) := by decide +kernel
theorem dX6_odds_58 : decode cX6_odds 58 = .ok (.invokevirtual 91, 3) := by decide +kernel
theorem dX6_odds_61 : decode cX6_odds 61 = .ok (.aload_n 0, 1) := by decide +kernel
theorem dX6_odds_62 : decode cX6_odds 62 = .ok (.getfield 28, 3) := by decide +kernel
theorem dX6_odds_65 : decode cX6_odds 65 = .ok (.iload_n 1, 1) := by decide +kernel
theorem dX6_odds_66 : decode cX6_odds 66 = .ok (.iconst 1, 1) := by decide +kernel
theorem dX6_odds_67 : decode cX6_odds 67 = .ok (.invokevirtual 98, 3) := by decide +kernel
theorem dX6_odds_70 : decode cX6_odds 70 = .ok (.aload_n 0, 1) := by decide +kernel
theorem dX6_odds_71 : decode cX6_odds 71 = .ok (.getfield 28, 3) := by decide +kernel
theorem dX6_odds_74 : decode cX6_odds 74 = .ok (.invokevirtual 155, 3) := by decide +kernel
theorem dX6_odds_77 : decode cX6_odds 77 = .ok (.ifCond .ne 16, 3) := by decide +kernel
theorem dX6_odds_80 : decode cX6_odds 80 = .ok (.aload_n 0, 1) := by decide +kernel
theorem dX6_odds_81 : decode cX6_odds 81 = .ok (.getfield 28, 3) := by decide +kernel
theorem dX6_odds_84 : decode cX6_odds 84 = .ok (.invokevirtual 167, 3) := by decide +kernel
theorem dX6_odds_87 : decode cX6_odds 87 = .ok (.ifCond .ne 6, 3) := by decide +kernel
theorem dX6_odds_90 : decode cX6_odds 90 = .ok (.iinc 3 1, 3) := by decide +kernel
theorem dX6_odds_93 : decode cX6_odds 93 = .ok (.iinc 4 1, 3) := by decide +kernel
theorem dX6_odds_96 : decode cX6_odds 96 = .ok (.goto (-52), 3) := by decide +kernel
theorem dX6_odds_99 : decode cX6_odds 99 = .ok (.iload_n 3, 1) := by decide +kernel
theorem dX6_odds_100 : decode cX6_odds 100 = .ok (.bipush 10, 2) := by decide +kernel
theorem dX6_odds_102 : decode cX6_odds 102 = .ok (.iload_n 2, 1) := by decide +kernel
theorem dX6_odds_103 : decode cX6_odds 103 = .ok (.invokestatic 219, 3) := by decide +kernel
theorem dX6_odds_106 : decode cX6_odds 106 = .ok (.lreturn, 1) := by decide +kernel
theorem dX6_mean_0 : decode cX6_mean 0 = .ok (.aload_n 0, 1) := by decide +kernel
theorem dX6_mean_1 : decode cX6_mean 1 = .ok (.getfield 14, 3) := by decide +kernel
theorem dX6_mean_4 : decode cX6_mean 4 = .ok (.getfield 57, 3) := by decide +kernel
theorem dX6_mean_7 : decode cX6_mean 7 = .ok (.invokevirtual 177, 3) := by decide +kernel
theorem dX6_mean_10 : decode cX6_mean 10 = .ok (.istore_n 2, 1) := by decide +kernel
theorem dX6_mean_11 : decode cX6_mean 11 = .ok (.iload_n 1, 1) := by decide +kernel
theorem dX6_mean_12 : decode cX6_mean 12 = .ok (.invokestatic 214, 3) := by decide +kernel
theorem dX6_mean_15 : decode cX6_mean 15 = .ok (.ifCond .eq 25, 3) := by decide +kernel
theorem dX6_mean_18 : decode cX6_mean 18 = .ok (.iload_n 2, 1) := by decide +kernel
theorem dX6_mean_19 : decode cX6_mean 19 = .ok (.ifCond .le 21, 3) := by decide +kernel
theorem dX6_mean_22 : decode cX6_mean 22 = .ok (.aload_n 0, 1) := by decide +kernel
theorem dX6_mean_23 : decode cX6_mean 23 = .ok (.getfield 14, 3) := by decide +kernel
theorem dX6_mean_26 : decode cX6_mean 26 = .ok (.getfield 57, 3) := by decide +kernel
theorem dX6_mean_29 : decode cX6_mean 29 = .ok (.invokevirtual 223, 3) := by decide +kernel
theorem dX6_mean_32 : decode cX6_mean 32 = .ok (.iload_n 2, 1) := by decide +kernel
theorem dX6_mean_33 : decode cX6_mean 33 = .ok (.iload_n 1, 1) := by decide +kernel
theorem dX6_mean_34 : decode cX6_mean 34 = .ok (.invokestatic 219, 3) := by decide +kernel
theorem dX6_mean_37 : decode cX6_mean 37 = .ok (.goto 6, 3) := by decide +kernel
theorem dX6_mean_40 : decode cX6_mean 40 = .ok (.ldc2_w 217, 3) := by decide +kernel
theorem dX6_mean_43 : decode cX6_mean 43 = .ok (.lreturn, 1) := by decide +kernel
theorem dX6_plan_0 : decode cX6_plan 0 = .ok (.iload_n 1, 1) := by decide +kernel
theorem dX6_plan_1 : decode cX6_plan 1 = .ok (.iconst (-1), 1) := by decide +kernel
theorem dX6_plan_2 : decode cX6_plan 2 = .ok (.if_icmp .ne 14, 3) := by decide +kernel
theorem dX6_plan_5 : decode cX6_plan 5 = .ok (.aload_n 0, 1) := by decide +kernel
theorem dX6_plan_6 : decode cX6_plan 6 = .ok (.getfield 14, 3) := by decide +kernel
theorem dX6_plan_9 : decode cX6_plan 9 = .ok (.getfield 226, 3) := by decide +kernel
theorem dX6_plan_12 : decode cX6_plan 12 = .ok (.invokevirtual 197, 3) := by decide +kernel
theorem dX6_plan_15 : decode cX6_plan 15 = .ok (.ireturn, 1) := by decide +kernel
theorem dX6_plan_16 : decode cX6_plan 16 = .ok (.iload_n 1, 1) := by decide +kernel
theorem dX6_plan_17 : decode cX6_plan 17 = .ok (.ifCond .lt 8, 3) := by decide +kernel
theorem dX6_plan_20 : decode cX6_plan 20 = .ok (.iload_n 1, 1) := by decide +kernel
theorem dX6_plan_21 : decode cX6_plan 21 = .ok (.iconst 3, 1) := by decide +kernel
theorem dX6_plan_22 : decode cX6_plan 22 = .ok (.if_icmp .le 5, 3) := by decide +kernel
theorem dX6_plan_25 : decode cX6_plan 25 = .ok (.iconst (-1), 1) := by decide +kernel
theorem dX6_plan_26 : decode cX6_plan 26 = .ok (.ireturn, 1) := by decide +kernel
theorem dX6_plan_27 : decode cX6_plan 27 = .ok (.iload_n 1, 1) := by decide +kernel
theorem dX6_plan_28 : decode cX6_plan 28 = .ok (.iconst 1, 1) := by decide +kernel
theorem dX6_plan_29 : decode cX6_plan 29 = .ok (.if_icmp .eq 8, 3) := by decide +kernel
theorem dX6_plan_32 : decode cX6_plan 32 = .ok (.iload_n 1, 1) := by decide +kernel
theorem dX6_plan_33 : decode cX6_plan 33 = .ok (.iconst 3, 1) := by decide +kernel
theorem dX6_plan_34 : decode cX6_plan 34 = .ok (.if_icmp .ne 19, 3) := by decide +kernel
theorem dX6_plan_37 : decode cX6_plan 37 = .ok (.aload_n 0, 1) := by decide +kernel
theorem dX6_plan_38 : decode cX6_plan 38 = .ok (.getfield 14, 3) := by decide +kernel
theorem dX6_plan_41 : decode cX6_plan 41 = .ok (.getfield 57, 3) := by decide +kernel
theorem dX6_plan_44 : decode cX6_plan 44 = .ok (.iload_n 2, 1) := by decide +kernel
theorem dX6_plan_45 : decode cX6_plan 45 = .ok (.invokevirtual 78, 3) := by decide +kernel
theorem dX6_plan_48 : decode cX6_plan 48 = .ok (.ifCond .ne 5, 3) := by decide +kernel
theorem dX6_plan_51 : decode cX6_plan 51 = .ok (.iconst (-1), 1) := by decide +kernel
theorem dX6_plan_52 : decode cX6_plan 52 = .ok (.ireturn, 1) := by decide +kernel
theorem dX6_plan_53 : decode cX6_plan 53 = .ok (.iload_n 1, 1) := by decide +kernel
theorem dX6_plan_54 : decode cX6_plan 54 = .ok (.iconst 2, 1) := by decide +kernel
theorem dX6_plan_55 : decode cX6_plan 55 = .ok (.if_icmp .ne 13, 3) := by decide +kernel
theorem dX6_plan_58 : decode cX6_plan 58 = .ok (.iload_n 2, 1) := by decide +kernel
theorem dX6_plan_59 : decode cX6_plan 59 = .ok (.invokestatic 68, 3) := by decide +kernel
theorem dX6_plan_62 : decode cX6_plan 62 = .ok (.ifCond .ne 6, 3) := by decide +kernel
theorem dX6_plan_65 : decode cX6_plan 65 = .ok (.bipush (-2), 2) := by decide +kernel
theorem dX6_plan_67 : decode cX6_plan 67 = .ok (.ireturn, 1) := by decide +kernel
theorem dX6_plan_68 : decode cX6_plan 68 = .ok (.aload_n 0, 1) := by decide +kernel
theorem dX6_plan_69 : decode cX6_plan 69 = .ok (.getfield 14, 3) := by decide +kernel
theorem dX6_plan_72 : decode cX6_plan 72 = .ok (.getfield 226, 3) := by decide +kernel
theorem dX6_plan_75 : decode cX6_plan 75 = .ok (.iload_n 1, 1) := by decide +kernel
theorem dX6_plan_76 : decode cX6_plan 76 = .ok (.iload_n 2, 1) := by decide +kernel
theorem dX6_plan_77 : decode cX6_plan 77 = .ok (.invokevirtual 201, 3) := by decide +kernel
theorem dX6_plan_80 : decode cX6_plan 80 = .ok (.ireturn, 1) := by decide +kernel
theorem dX6_ends_0 : decode cX6_ends 0 = .ok (.iload_n 1, 1) := by decide +kernel
theorem dX6_ends_1 : decode cX6_ends 1 = .ok (.ifCond .lt 8, 3) := by decide +kernel
theorem dX6_ends_4 : decode cX6_ends 4 = .ok (.iload_n 1, 1) := by decide +kernel
theorem dX6_ends_5 : decode cX6_ends 5 = .ok (.iconst 1, 1) := by decide +kernel
theorem dX6_ends_6 : decode cX6_ends 6 = .ok (.if_icmp .le 5, 3) := by decide +kernel
theorem dX6_ends_9 : decode cX6_ends 9 = .ok (.iconst (-1), 1) := by decide +kernel
theorem dX6_ends_10 : decode cX6_ends 10 = .ok (.ireturn, 1) := by decide +kernel
theorem dX6_ends_11 : decode cX6_ends 11 = .ok (.aload_n 0, 1) := by decide +kernel
theorem dX6_ends_12 : decode cX6_ends 12 = .ok (.getfield 28, 3) := by decide +kernel
theorem dX6_ends_15 : decode cX6_ends 15 = .ok (.aload_n 0, 1) := by decide +kernel
theorem dX6_ends_16 : decode cX6_ends 16 = .ok (.getfield 14, 3) := by decide +kernel
theorem dX6_ends_19 : decode cX6_ends 19 = .ok (.getfield 57, 3) := by decide +kernel
theorem dX6_ends_22 : decode cX6_ends 22 = .ok (.invokevirtual 203, 3) := by decide +kernel
theorem dX6_ends_25 : decode cX6_ends 25 = .ok (.iconst 0, 1) := by decide +kernel
theorem dX6_ends_26 : decode cX6_ends 26 = .ok (.istore_n 2, 1) := by decide +kernel
theorem dX6_ends_27 : decode cX6_ends 27 = .ok (.iload_n 2, 1) := by decide +kernel
theorem dX6_ends_28 : decode cX6_ends 28 = .ok (.aload_n 0, 1) := by decide +kernel
theorem dX6_ends_29 : decode cX6_ends 29 = .ok (.getfield 14, 3) := by decide +kernel
theorem dX6_ends_32 : decode cX6_ends 32 = .ok (.getfield 226, 3) := by decide +kernel
theorem dX6_ends_35 : decode cX6_ends 35 = .ok (.invokevirtual 229, 3) := by decide +kernel
theorem dX6_ends_38 : decode cX6_ends 38 = .ok (.if_icmp .ge 35, 3) := by decide +kernel
theorem dX6_ends_41 : decode cX6_ends 41 = .ok (.aload_n 0, 1) := by decide +kernel
theorem dX6_ends_42 : decode cX6_ends 42 = .ok (.aload_n 0, 1) := by decide +kernel
theorem dX6_ends_43 : decode cX6_ends 43 = .ok (.getfield 14, 3) := by decide +kernel
theorem dX6_ends_46 : decode cX6_ends 46 = .ok (.getfield 226, 3) := by decide +kernel
theorem dX6_ends_49 : decode cX6_ends 49 = .ok (.iload_n 2, 1) := by decide +kernel
theorem dX6_ends_50 : decode cX6_ends 50 = .ok (.invokevirtual 230, 3) := by decide +kernel
theorem dX6_ends_53 : decode cX6_ends 53 = .ok (.aload_n 0, 1) := by decide +kernel
theorem dX6_ends_54 : decode cX6_ends 54 = .ok (.getfield 14, 3) := by decide +kernel
theorem dX6_ends_57 : decode cX6_ends 57 = .ok (.getfield 226, 3) := by decide +kernel
theorem dX6_ends_60 : decode cX6_ends 60 = .ok (.iload_n 2, 1) := by decide +kernel
theorem dX6_ends_61 : decode cX6_ends 61 = .ok (.invokevirtual 233, 3) := by decide +kernel
theorem dX6_ends_64 : decode cX6_ends 64 = .ok (.invokevirtual 236, 3) := by decide +kernel
theorem dX6_ends_67 : decode cX6_ends 67 = .ok (.iinc 2 1, 3) := by decide +kernel
theorem dX6_ends_70 : decode cX6_ends 70 = .ok (.goto (-43), 3) := by decide +kernel
theorem dX6_ends_73 : decode cX6_ends 73 = .ok (.iload_n 1, 1) := by decide +kernel
theorem dX6_ends_74 : decode cX6_ends 74 = .ok (.ifCond .ne 13, 3) := by decide +kernel
theorem dX6_ends_77 : decode cX6_ends 77 = .ok (.aload_n 0, 1) := by decide +kernel
theorem dX6_ends_78 : decode cX6_ends 78 = .ok (.getfield 28, 3) := by decide +kernel
theorem dX6_ends_81 : decode cX6_ends 81 = .ok (.invokevirtual 164, 3) := by decide +kernel
theorem dX6_ends_84 : decode cX6_ends 84 = .ok (.goto 10, 3) := by decide +kernel
theorem dX6_ends_87 : decode cX6_ends 87 = .ok (.aload_n 0, 1) := by decide +kernel
theorem dX6_ends_88 : decode cX6_ends 88 = .ok (.getfield 28, 3) := by decide +kernel
theorem dX6_ends_91 : decode cX6_ends 91 = .ok (.invokevirtual 167, 3) := by decide +kernel
theorem dX6_ends_94 : decode cX6_ends 94 = .ok (.ireturn, 1) := by decide +kernel
theorem dX6_goAhead_0 : decode cX6_goAhead 0 = .ok (.iload_n 1, 1) := by decide +kernel
theorem dX6_goAhead_1 : decode cX6_goAhead 1 = .ok (.tableswitch 63 0 2 #[27, 38, 50], 27) := by decide +kernel
theorem dX6_goAhead_28 : decode cX6_goAhead 28 = .ok (.aload_n 0, 1) := by decide +kernel
theorem dX6_goAhead_29 : decode cX6_goAhead 29 = .ok (.getfield 28, 3) := by decide +kernel
theorem dX6_goAhead_32 : decode cX6_goAhead 32 = .ok (.invokevirtual 155, 3) := by decide +kernel
theorem dX6_goAhead_35 : decode cX6_goAhead 35 = .ok (.pop, 1) := by decide +kernel
theorem dX6_goAhead_36 : decode cX6_goAhead 36 = .ok (.goto 37, 3) := by decide +kernel
theorem dX6_goAhead_39 : decode cX6_goAhead 39 = .ok (.aload_n 0, 1) := by decide +kernel
theorem dX6_goAhead_40 : decode cX6_goAhead 40 = .ok (.getfield 28, 3) := by decide +kernel
theorem dX6_goAhead_43 : decode cX6_goAhead 43 = .ok (.iload_n 2, 1) := by decide +kernel
theorem dX6_goAhead_44 : decode cX6_goAhead 44 = .ok (.iconst (-1), 1) := by decide +kernel
theorem dX6_goAhead_45 : decode cX6_goAhead 45 = .ok (.invokevirtual 91, 3) := by decide +kernel
theorem dX6_goAhead_48 : decode cX6_goAhead 48 = .ok (.goto 25, 3) := by decide +kernel
theorem dX6_goAhead_51 : decode cX6_goAhead 51 = .ok (.aload_n 0, 1) := by decide +kernel
theorem dX6_goAhead_52 : decode cX6_goAhead 52 = .ok (.getfield 28, 3) := by decide +kernel
theorem dX6_goAhead_55 : decode cX6_goAhead 55 = .ok (.iconst 0, 1) := by decide +kernel
theorem dX6_goAhead_56 : decode cX6_goAhead 56 = .ok (.iload_n 2, 1) := by decide +kernel
theorem dX6_goAhead_57 : decode cX6_goAhead 57 = .ok (.invokevirtual 207, 3) := by decide +kernel
theorem dX6_goAhead_60 : decode cX6_goAhead 60 = .ok (.pop, 1) := by decide +kernel
theorem dX6_goAhead_61 : decode cX6_goAhead 61 = .ok (.goto 12, 3) := by decide +kernel
theorem dX6_goAhead_64 : decode cX6_goAhead 64 = .ok (.aload_n 0, 1) := by decide +kernel
theorem dX6_goAhead_65 : decode cX6_goAhead 65 = .ok (.getfield 28, 3) := by decide +kernel
theorem dX6_goAhead_68 : decode cX6_goAhead 68 = .ok (.iload_n 2, 1) := by decide +kernel
theorem dX6_goAhead_69 : decode cX6_goAhead 69 = .ok (.iconst 1, 1) := by decide +kernel
theorem dX6_goAhead_70 : decode cX6_goAhead 70 = .ok (.invokevirtual 98, 3) := by decide +kernel
theorem dX6_goAhead_73 : decode cX6_goAhead 73 = .ok (.return_, 1) := by decide +kernel
theorem dX6_book_0 : decode cX6_book 0 = .ok (.iload_n 1, 1) := by decide +kernel
theorem dX6_book_1 : decode cX6_book 1 = .ok (.iconst (-1), 1) := by decide +kernel
theorem dX6_book_2 : decode cX6_book 2 = .ok (.if_icmp .ne 14, 3) := by decide +kernel
theorem dX6_book_5 : decode cX6_book 5 = .ok (.aload_n 0, 1) := by decide +kernel
theorem dX6_book_6 : decode cX6_book 6 = .ok (.getfield 14, 3) := by decide +kernel
theorem dX6_book_9 : decode cX6_book 9 = .ok (.getfield 239, 3) := by decide +kernel
theorem dX6_book_12 : decode cX6_book 12 = .ok (.invokevirtual 197, 3) := by decide +kernel
theorem dX6_book_15 : decode cX6_book 15 = .ok (.ireturn, 1) := by decide +kernel
theorem dX6_book_16 : decode cX6_book 16 = .ok (.aload_n 0, 1) := by decide +kernel
theorem dX6_book_17 : decode cX6_book 17 = .ok (.getfield 14, 3) := by decide +kernel
theorem dX6_book_20 : decode cX6_book 20 = .ok (.getfield 57, 3) := by decide +kernel
theorem dX6_book_23 : decode cX6_book 23 = .ok (.iload_n 1, 1) := by decide +kernel
theorem dX6_book_24 : decode cX6_book 24 = .ok (.invokevirtual 78, 3) := by decide +kernel
theorem dX6_book_27 : decode cX6_book 27 = .ok (.ifCond .ne 5, 3) := by decide +kernel
theorem dX6_book_30 : decode cX6_book 30 = .ok (.iconst (-1), 1) := by decide +kernel
theorem dX6_book_31 : decode cX6_book 31 = .ok (.ireturn, 1) := by decide +kernel
theorem dX6_book_32 : decode cX6_book 32 = .ok (.iload_n 2, 1) := by decide +kernel
theorem dX6_book_33 : decode cX6_book 33 = .ok (.iconst (-1), 1) := by decide +kernel
theorem dX6_book_34 : decode cX6_book 34 = .ok (.if_icmp .eq 13, 3) := by decide +kernel
theorem dX6_book_37 : decode cX6_book 37 = .ok (.iload_n 2, 1) := by decide +kernel
theorem dX6_book_38 : decode cX6_book 38 = .ok (.invokestatic 81, 3) := by decide +kernel
theorem dX6_book_41 : decode cX6_book 41 = .ok (.ifCond .ne 6, 3) := by decide +kernel
theorem dX6_book_44 : decode cX6_book 44 = .ok (.bipush (-2), 2) := by decide +kernel
theorem dX6_book_46 : decode cX6_book 46 = .ok (.ireturn, 1) := by decide +kernel
theorem dX6_book_47 : decode cX6_book 47 = .ok (.aload_n 0, 1) := by decide +kernel
theorem dX6_book_48 : decode cX6_book 48 = .ok (.getfield 14, 3) := by decide +kernel
theorem dX6_book_51 : decode cX6_book 51 = .ok (.getfield 239, 3) := by decide +kernel
theorem dX6_book_54 : decode cX6_book 54 = .ok (.iload_n 1, 1) := by decide +kernel
theorem dX6_book_55 : decode cX6_book 55 = .ok (.iload_n 2, 1) := by decide +kernel
theorem dX6_book_56 : decode cX6_book 56 = .ok (.invokevirtual 201, 3) := by decide +kernel
theorem dX6_book_59 : decode cX6_book 59 = .ok (.ireturn, 1) := by decide +kernel
theorem dX6_looked_0 : decode cX6_looked 0 = .ok (.aload_n 0, 1) := by decide +kernel
theorem dX6_looked_1 : decode cX6_looked 1 = .ok (.getfield 14, 3) := by decide +kernel
theorem dX6_looked_4 : decode cX6_looked 4 = .ok (.getfield 239, 3) := by decide +kernel
theorem dX6_looked_7 : decode cX6_looked 7 = .ok (.aload_n 0, 1) := by decide +kernel
theorem dX6_looked_8 : decode cX6_looked 8 = .ok (.getfield 14, 3) := by decide +kernel
theorem dX6_looked_11 : decode cX6_looked 11 = .ok (.getfield 57, 3) := by decide +kernel
theorem dX6_looked_14 : decode cX6_looked 14 = .ok (.invokestatic 210, 3) := by decide +kernel
theorem dX6_looked_17 : decode cX6_looked 17 = .ok (.ireturn, 1) := by decide +kernel
theorem dX6_judge_0 : decode cX6_judge 0 = .ok (.iload_n 1, 1) := by decide +kernel
theorem dX6_judge_1 : decode cX6_judge 1 = .ok (.invokestatic 242, 3) := by decide +kernel
theorem dX6_judge_4 : decode cX6_judge 4 = .ok (.ifCond .ne 5, 3) := by decide +kernel
theorem dX6_judge_7 : decode cX6_judge 7 = .ok (.iconst (-1), 1) := by decide +kernel
theorem dX6_judge_8 : decode cX6_judge 8 = .ok (.ireturn, 1) := by decide +kernel
theorem dX6_judge_9 : decode cX6_judge 9 = .ok (.aload_n 0, 1) := by decide +kernel
theorem dX6_judge_10 : decode cX6_judge 10 = .ok (.getfield 48, 3) := by decide +kernel
theorem dX6_judge_13 : decode cX6_judge 13 = .ok (.iload_n 1, 1) := by decide +kernel
theorem dX6_judge_14 : decode cX6_judge 14 = .ok (.aaload, 1) := by decide +kernel
theorem dX6_judge_15 : decode cX6_judge 15 = .ok (.astore_n 3, 1) := by decide +kernel
theorem dX6_judge_16 : decode cX6_judge 16 = .ok (.aload_n 3, 1) := by decide +kernel
theorem dX6_judge_17 : decode cX6_judge 17 = .ok (.invokevirtual 245, 3) := by decide +kernel
theorem dX6_judge_20 : decode cX6_judge 20 = .ok (.ifCond .ne 13, 3) := by decide +kernel
theorem dX6_judge_23 : decode cX6_judge 23 = .ok (.aload_n 3, 1) := by decide +kernel
theorem dX6_judge_24 : decode cX6_judge 24 = .ok (.invokevirtual 249, 3) := by decide +kernel
theorem dX6_judge_27 : decode cX6_judge 27 = .ok (.ifCond .eq 6, 3) := by decide +kernel
theorem dX6_judge_30 : decode cX6_judge 30 = .ok (.bipush (-12), 2) := by decide +kernel
theorem dX6_judge_32 : decode cX6_judge 32 = .ok (.ireturn, 1) := by decide +kernel
theorem dX6_judge_33 : decode cX6_judge 33 = .ok (.iconst 0, 1) := by decide +kernel
theorem dX6_judge_34 : decode cX6_judge 34 = .ok (.istore 4, 2) := by decide +kernel
theorem dX6_judge_36 : decode cX6_judge 36 = .ok (.iload 4, 2) := by decide +kernel
theorem dX6_judge_38 : decode cX6_judge 38 = .ok (.aload_n 0, 1) := by decide +kernel
theorem dX6_judge_39 : decode cX6_judge 39 = .ok (.getfield 14, 3) := by decide +kernel
theorem dX6_judge_42 : decode cX6_judge 42 = .ok (.getfield 57, 3) := by decide +kernel
theorem dX6_judge_45 : decode cX6_judge 45 = .ok (.invokevirtual 161, 3) := by decide +kernel
theorem dX6_judge_48 : decode cX6_judge 48 = .ok (.if_icmp .ge 54, 3) := by decide +kernel
theorem dX6_judge_51 : decode cX6_judge 51 = .ok (.aload_n 3, 1) := by decide +kernel
theorem dX6_judge_52 : decode cX6_judge 52 = .ok (.iload_n 2, 1) := by decide +kernel
theorem dX6_judge_53 : decode cX6_judge 53 = .ok (.iload 4, 2) := by decide +kernel
theorem dX6_judge_55 : decode cX6_judge 55 = .ok (.iadd, 1) := by decide +kernel
theorem dX6_judge_56 : decode cX6_judge 56 = .ok (.invokevirtual 252, 3) := by decide +kernel
theorem dX6_judge_59 : decode cX6_judge 59 = .ok (.ifCond .ne 9, 3) := by decide +kernel
theorem dX6_judge_62 : decode cX6_judge 62 = .ok (.bipush 100, 2) := by decide +kernel
theorem dX6_judge_64 : decode cX6_judge 64 = .ok (.iload 4, 2) := by decide +kernel
theorem dX6_judge_66 : decode cX6_judge 66 = .ok (.iadd, 1) := by decide +kernel
theorem dX6_judge_67 : decode cX6_judge 67 = .ok (.ireturn, 1) := by decide +kernel
theorem dX6_judge_68 : decode cX6_judge 68 = .ok (.aload_n 3, 1) := by decide +kernel
theorem dX6_judge_69 : decode cX6_judge 69 = .ok (.iload_n 2, 1) := by decide +kernel
theorem dX6_judge_70 : decode cX6_judge 70 = .ok (.iload 4, 2) := by decide +kernel
theorem dX6_judge_72 : decode cX6_judge 72 = .ok (.iadd, 1) := by decide +kernel
theorem dX6_judge_73 : decode cX6_judge 73 = .ok (.invokevirtual 255, 3) := by decide +kernel
theorem dX6_judge_76 : decode cX6_judge 76 = .ok (.aload_n 0, 1) := by decide +kernel
theorem dX6_judge_77 : decode cX6_judge 77 = .ok (.getfield 14, 3) := by decide +kernel
theorem dX6_judge_80 : decode cX6_judge 80 = .ok (.getfield 57, 3) := by decide +kernel
theorem dX6_judge_83 : decode cX6_judge 83 = .ok (.iload 4, 2) := by decide +kernel
theorem dX6_judge_85 : decode cX6_judge 85 = .ok (.invokevirtual 95, 3) := by decide +kernel
theorem dX6_judge_88 : decode cX6_judge 88 = .ok (.i2l, 1) := by decide +kernel
theorem dX6_judge_89 : decode cX6_judge 89 = .ok (.lcmp, 1) := by decide +kernel
theorem dX6_judge_90 : decode cX6_judge 90 = .ok (.ifCond .eq 6, 3) := by decide +kernel
theorem dX6_judge_93 : decode cX6_judge 93 = .ok (.iload 4, 2) := by decide +kernel
theorem dX6_judge_95 : decode cX6_judge 95 = .ok (.ireturn, 1) := by decide +kernel
theorem dX6_judge_96 : decode cX6_judge 96 = .ok (.iinc 4 1, 3) := by decide +kernel
theorem dX6_judge_99 : decode cX6_judge 99 = .ok (.goto (-63), 3) := by decide +kernel
theorem dX6_judge_102 : decode cX6_judge 102 = .ok (.bipush (-5), 2) := by decide +kernel
theorem dX6_judge_104 : decode cX6_judge 104 = .ok (.ireturn, 1) := by decide +kernel
theorem dX6_image_0 : decode cX6_image 0 = .ok (.aload_n 0, 1) := by decide +kernel
theorem dX6_image_1 : decode cX6_image 1 = .ok (.getfield 18, 3) := by decide +kernel
theorem dX6_image_4 : decode cX6_image 4 = .ok (.aload_n 0, 1) := by decide +kernel
theorem dX6_image_5 : decode cX6_image 5 = .ok (.getfield 14, 3) := by decide +kernel
theorem dX6_image_8 : decode cX6_image 8 = .ok (.invokevirtual 259, 3) := by decide +kernel
theorem dX6_image_11 : decode cX6_image 11 = .ok (.aload_n 0, 1) := by decide +kernel
theorem dX6_image_12 : decode cX6_image 12 = .ok (.iconst 1, 1) := by decide +kernel
theorem dX6_image_13 : decode cX6_image 13 = .ok (.putfield 21, 3) := by decide +kernel
theorem dX6_image_16 : decode cX6_image 16 = .ok (.aload_n 0, 1) := by decide +kernel
theorem dX6_image_17 : decode cX6_image 17 = .ok (.getfield 18, 3) := by decide +kernel
theorem dX6_image_20 : decode cX6_image 20 = .ok (.getfield 57, 3) := by decide +kernel
theorem dX6_image_23 : decode cX6_image 23 = .ok (.invokevirtual 161, 3) := by decide +kernel
theorem dX6_image_26 : decode cX6_image 26 = .ok (.ireturn, 1) := by decide +kernel
theorem dX6_undo_0 : decode cX6_undo 0 = .ok (.aload_n 0, 1) := by decide +kernel
theorem dX6_undo_1 : decode cX6_undo 1 = .ok (.getfield 21, 3) := by decide +kernel
theorem dX6_undo_4 : decode cX6_undo 4 = .ok (.ifCond .ne 6, 3) := by decide +kernel
theorem dX6_undo_7 : decode cX6_undo 7 = .ok (.bipush (-3), 2) := by decide +kernel
theorem dX6_undo_9 : decode cX6_undo 9 = .ok (.ireturn, 1) := by decide +kernel
theorem dX6_undo_10 : decode cX6_undo 10 = .ok (.aload_n 0, 1) := by decide +kernel
theorem dX6_undo_11 : decode cX6_undo 11 = .ok (.getfield 14, 3) := by decide +kernel
theorem dX6_undo_14 : decode cX6_undo 14 = .ok (.aload_n 0, 1) := by decide +kernel
theorem dX6_undo_15 : decode cX6_undo 15 = .ok (.getfield 18, 3) := by decide +kernel
theorem dX6_undo_18 : decode cX6_undo 18 = .ok (.invokevirtual 259, 3) := by decide +kernel
theorem dX6_undo_21 : decode cX6_undo 21 = .ok (.aload_n 0, 1) := by decide +kernel
theorem dX6_undo_22 : decode cX6_undo 22 = .ok (.getfield 14, 3) := by decide +kernel
theorem dX6_undo_25 : decode cX6_undo 25 = .ok (.getfield 57, 3) := by decide +kernel
theorem dX6_undo_28 : decode cX6_undo 28 = .ok (.invokevirtual 161, 3) := by decide +kernel
theorem dX6_undo_31 : decode cX6_undo 31 = .ok (.ireturn, 1) := by decide +kernel
theorem dX6_count_0 : decode cX6_count 0 = .ok (.iload_n 1, 1) := by decide +kernel
theorem dX6_count_1 : decode cX6_count 1 = .ok (.tableswitch 102 0 5 #[39, 50, 61, 72, 83, 94], 39) := by decide +kernel
theorem dX6_count_40 : decode cX6_count 40 = .ok (.aload_n 0, 1) := by decide +kernel
theorem dX6_count_41 : decode cX6_count 41 = .ok (.getfield 14, 3) := by decide +kernel
theorem dX6_count_44 : decode cX6_count 44 = .ok (.getfield 57, 3) := by decide +kernel
theorem dX6_count_47 : decode cX6_count 47 = .ok (.invokevirtual 161, 3) := by decide +kernel
theorem dX6_count_50 : decode cX6_count 50 = .ok (.ireturn, 1) := by decide +kernel
theorem dX6_count_51 : decode cX6_count 51 = .ok (.aload_n 0, 1) := by decide +kernel
theorem dX6_count_52 : decode cX6_count 52 = .ok (.getfield 14, 3) := by decide +kernel
theorem dX6_count_55 : decode cX6_count 55 = .ok (.getfield 57, 3) := by decide +kernel
theorem dX6_count_58 : decode cX6_count 58 = .ok (.invokevirtual 262, 3) := by decide +kernel
theorem dX6_count_61 : decode cX6_count 61 = .ok (.ireturn, 1) := by decide +kernel
theorem dX6_count_62 : decode cX6_count 62 = .ok (.aload_n 0, 1) := by decide +kernel
theorem dX6_count_63 : decode cX6_count 63 = .ok (.getfield 14, 3) := by decide +kernel
theorem dX6_count_66 : decode cX6_count 66 = .ok (.getfield 193, 3) := by decide +kernel
theorem dX6_count_69 : decode cX6_count 69 = .ok (.invokevirtual 229, 3) := by decide +kernel
theorem dX6_count_72 : decode cX6_count 72 = .ok (.ireturn, 1) := by decide +kernel
theorem dX6_count_73 : decode cX6_count 73 = .ok (.aload_n 0, 1) := by decide +kernel
theorem dX6_count_74 : decode cX6_count 74 = .ok (.getfield 14, 3) := by decide +kernel
theorem dX6_count_77 : decode cX6_count 77 = .ok (.getfield 226, 3) := by decide +kernel
theorem dX6_count_80 : decode cX6_count 80 = .ok (.invokevirtual 229, 3) := by decide +kernel
theorem dX6_count_83 : decode cX6_count 83 = .ok (.ireturn, 1) := by decide +kernel
theorem dX6_count_84 : decode cX6_count 84 = .ok (.aload_n 0, 1) := by decide +kernel
theorem dX6_count_85 : decode cX6_count 85 = .ok (.getfield 14, 3) := by decide +kernel
theorem dX6_count_88 : decode cX6_count 88 = .ok (.getfield 239, 3) := by decide +kernel
theorem dX6_count_91 : decode cX6_count 91 = .ok (.invokevirtual 229, 3) := by decide +kernel
theorem dX6_count_94 : decode cX6_count 94 = .ok (.ireturn, 1) := by decide +kernel
theorem dX6_count_95 : decode cX6_count 95 = .ok (.aload_n 0, 1) := by decide +kernel
theorem dX6_count_96 : decode cX6_count 96 = .ok (.getfield 42, 3) := by decide +kernel
theorem dX6_count_99 : decode cX6_count 99 = .ok (.invokevirtual 265, 3) := by decide +kernel
theorem dX6_count_102 : decode cX6_count 102 = .ok (.ireturn, 1) := by decide +kernel
theorem dX6_count_103 : decode cX6_count 103 = .ok (.bipush (-2), 2) := by decide +kernel
theorem dX6_count_105 : decode cX6_count 105 = .ok (.ireturn, 1) := by decide +kernel
theorem dX6_tape_0 : decode cX6_tape 0 = .ok (.iload_n 1, 1) := by decide +kernel
theorem dX6_tape_1 : decode cX6_tape 1 = .ok (.invokestatic 242, 3) := by decide +kernel
theorem dX6_tape_4 : decode cX6_tape 4 = .ok (.ifCond .ne 5, 3) := by decide +kernel
theorem dX6_tape_7 : decode cX6_tape 7 = .ok (.iconst (-1), 1) := by decide +kernel
theorem dX6_tape_8 : decode cX6_tape 8 = .ok (.ireturn, 1) := by decide +kernel
theorem dX6_tape_9 : decode cX6_tape 9 = .ok (.iload_n 2, 1) := by decide +kernel
theorem dX6_tape_10 : decode cX6_tape 10 = .ok (.iconst (-1), 1) := by decide +kernel
theorem dX6_tape_11 : decode cX6_tape 11 = .ok (.if_icmp .ne 16, 3) := by decide +kernel
theorem dX6_tape_14 : decode cX6_tape 14 = .ok (.aload_n 0, 1) := by decide +kernel
theorem dX6_tape_15 : decode cX6_tape 15 = .ok (.getfield 48, 3) := by decide +kernel
theorem dX6_tape_18 : decode cX6_tape 18 = .ok (.iload_n 1, 1) := by decide +kernel
theorem dX6_tape_19 : decode cX6_tape 19 = .ok (.aaload, 1) := by decide +kernel
theorem dX6_tape_20 : decode cX6_tape 20 = .ok (.iconst (-1), 1) := by decide +kernel
theorem dX6_tape_21 : decode cX6_tape 21 = .ok (.iconst 0, 1) := by decide +kernel
theorem dX6_tape_22 : decode cX6_tape 22 = .ok (.invokevirtual 268, 3) := by decide +kernel
theorem dX6_tape_25 : decode cX6_tape 25 = .ok (.iconst 1, 1) := by decide +kernel
theorem dX6_tape_26 : decode cX6_tape 26 = .ok (.ireturn, 1) := by decide +kernel
theorem dX6_tape_27 : decode cX6_tape 27 = .ok (.iload_n 2, 1) := by decide +kernel
theorem dX6_tape_28 : decode cX6_tape 28 = .ok (.ifCond .lt 14, 3) := by decide +kernel
theorem dX6_tape_31 : decode cX6_tape 31 = .ok (.iload_n 2, 1) := by decide +kernel
theorem dX6_tape_32 : decode cX6_tape 32 = .ok (.iconst 4, 1) := by decide +kernel
theorem dX6_tape_33 : decode cX6_tape 33 = .ok (.if_icmp .gt 9, 3) := by decide +kernel
theorem dX6_tape_36 : decode cX6_tape 36 = .ok (.iload_n 3, 1) := by decide +kernel
theorem dX6_tape_37 : decode cX6_tape 37 = .ok (.bipush 60, 2) := by decide +kernel
theorem dX6_tape_39 : decode cX6_tape 39 = .ok (.if_icmp .le 6, 3) := by decide +kernel
theorem dX6_tape_42 : decode cX6_tape 42 = .ok (.bipush (-2), 2) := by decide +kernel
theorem dX6_tape_44 : decode cX6_tape 44 = .ok (.ireturn, 1) := by decide +kernel
theorem dX6_tape_45 : decode cX6_tape 45 = .ok (.iload_n 3, 1) := by decide +kernel
theorem dX6_tape_46 : decode cX6_tape 46 = .ok (.ifCond .ge 6, 3) := by decide +kernel
theorem dX6_tape_49 : decode cX6_tape 49 = .ok (.bipush (-14), 2) := by decide +kernel
theorem dX6_tape_51 : decode cX6_tape 51 = .ok (.ireturn, 1) := by decide +kernel
theorem dX6_tape_52 : decode cX6_tape 52 = .ok (.aload_n 0, 1) := by decide +kernel
theorem dX6_tape_53 : decode cX6_tape 53 = .ok (.getfield 48, 3) := by decide +kernel
theorem dX6_tape_56 : decode cX6_tape 56 = .ok (.iload_n 1, 1) := by decide +kernel
theorem dX6_tape_57 : decode cX6_tape 57 = .ok (.aaload, 1) := by decide +kernel
theorem dX6_tape_58 : decode cX6_tape 58 = .ok (.iload_n 2, 1) := by decide +kernel
theorem dX6_tape_59 : decode cX6_tape 59 = .ok (.iload_n 3, 1) := by decide +kernel
theorem dX6_tape_60 : decode cX6_tape 60 = .ok (.invokevirtual 268, 3) := by decide +kernel
theorem dX6_tape_63 : decode cX6_tape 63 = .ok (.iconst 1, 1) := by decide +kernel
theorem dX6_tape_64 : decode cX6_tape 64 = .ok (.ireturn, 1) := by decide +kernel
theorem dX6_item_0 : decode cX6_item 0 = .ok (.iload_n 1, 1) := by decide +kernel
theorem dX6_item_1 : decode cX6_item 1 = .ok (.invokestatic 242, 3) := by decide +kernel
theorem dX6_item_4 : decode cX6_item 4 = .ok (.ifCond .ne 5, 3) := by decide +kernel
theorem dX6_item_7 : decode cX6_item 7 = .ok (.iconst (-1), 1) := by decide +kernel
theorem dX6_item_8 : decode cX6_item 8 = .ok (.ireturn, 1) := by decide +kernel
theorem dX6_item_9 : decode cX6_item 9 = .ok (.aload_n 0, 1) := by decide +kernel
theorem dX6_item_10 : decode cX6_item 10 = .ok (.getfield 48, 3) := by decide +kernel
theorem dX6_item_13 : decode cX6_item 13 = .ok (.iload_n 1, 1) := by decide +kernel
theorem dX6_item_14 : decode cX6_item 14 = .ok (.aaload, 1) := by decide +kernel
theorem dX6_item_15 : decode cX6_item 15 = .ok (.astore 5, 2) := by decide +kernel
theorem dX6_item_17 : decode cX6_item 17 = .ok (.aload 5, 2) := by decide +kernel
theorem dX6_item_19 : decode cX6_item 19 = .ok (.invokevirtual 245, 3) := by decide +kernel
theorem dX6_item_22 : decode cX6_item 22 = .ok (.ifCond .eq 6, 3) := by decide +kernel
theorem dX6_item_25 : decode cX6_item 25 = .ok (.bipush (-11), 2) := by decide +kernel
theorem dX6_item_27 : decode cX6_item 27 = .ok (.ireturn, 1) := by decide +kernel
theorem dX6_item_28 : decode cX6_item 28 = .ok (.aload 5, 2) := by decide +kernel
theorem dX6_item_30 : decode cX6_item 30 = .ok (.iload_n 2, 1) := by decide +kernel
theorem dX6_item_31 : decode cX6_item 31 = .ok (.invokevirtual 252, 3) := by decide +kernel
theorem dX6_item_34 : decode cX6_item 34 = .ok (.ifCond .ne 6, 3) := by decide +kernel
theorem dX6_item_37 : decode cX6_item 37 = .ok (.bipush (-13), 2) := by decide +kernel
theorem dX6_item_39 : decode cX6_item 39 = .ok (.ireturn, 1) := by decide +kernel
theorem dX6_item_40 : decode cX6_item 40 = .ok (.aload 5, 2) := by decide +kernel
theorem dX6_item_42 : decode cX6_item 42 = .ok (.iload_n 2, 1) := by decide +kernel
theorem dX6_item_43 : decode cX6_item 43 = .ok (.lload_n 3, 1) := by decide +kernel
theorem dX6_item_44 : decode cX6_item 44 = .ok (.invokevirtual 271, 3) := by decide +kernel
theorem dX6_item_47 : decode cX6_item 47 = .ok (.iconst 1, 1) := by decide +kernel
theorem dX6_item_48 : decode cX6_item 48 = .ok (.ireturn, 1) := by decide +kernel
theorem dX6_peek_0 : decode cX6_peek 0 = .ok (.iload_n 1, 1) := by decide +kernel
theorem dX6_peek_1 : decode cX6_peek 1 = .ok (.invokestatic 242, 3) := by decide +kernel
theorem dX6_peek_4 : decode cX6_peek 4 = .ok (.ifCond .eq 29, 3) := by decide +kernel
theorem dX6_peek_7 : decode cX6_peek 7 = .ok (.aload_n 0, 1) := by decide +kernel
theorem dX6_peek_8 : decode cX6_peek 8 = .ok (.getfield 48, 3) := by decide +kernel
theorem dX6_peek_11 : decode cX6_peek 11 = .ok (.iload_n 1, 1) := by decide +kernel
theorem dX6_peek_12 : decode cX6_peek 12 = .ok (.aaload, 1) := by decide +kernel
theorem dX6_peek_13 : decode cX6_peek 13 = .ok (.iload_n 2, 1) := by decide +kernel
theorem dX6_peek_14 : decode cX6_peek 14 = .ok (.invokevirtual 252, 3) := by decide +kernel
theorem dX6_peek_17 : decode cX6_peek 17 = .ok (.ifCond .eq 16, 3) := by decide +kernel
theorem dX6_peek_20 : decode cX6_peek 20 = .ok (.aload_n 0, 1) := by decide +kernel
theorem dX6_peek_21 : decode cX6_peek 21 = .ok (.getfield 48, 3) := by decide +kernel
theorem dX6_peek_24 : decode cX6_peek 24 = .ok (.iload_n 1, 1) := by decide +kernel
theorem dX6_peek_25 : decode cX6_peek 25 = .ok (.aaload, 1) := by decide +kernel
theorem dX6_peek_26 : decode cX6_peek 26 = .ok (.iload_n 2, 1) := by decide +kernel
theorem dX6_peek_27 : decode cX6_peek 27 = .ok (.invokevirtual 255, 3) := by decide +kernel
theorem dX6_peek_30 : decode cX6_peek 30 = .ok (.goto 6, 3) := by decide +kernel
theorem dX6_peek_33 : decode cX6_peek 33 = .ok (.ldc2_w 217, 3) := by decide +kernel
theorem dX6_peek_36 : decode cX6_peek 36 = .ok (.lreturn, 1) := by decide +kernel
theorem dX6_shift_0 : decode cX6_shift 0 = .ok (.iload_n 1, 1) := by decide +kernel
theorem dX6_shift_1 : decode cX6_shift 1 = .ok (.invokestatic 242, 3) := by decide +kernel
theorem dX6_shift_4 : decode cX6_shift 4 = .ok (.ifCond .eq 10, 3) := by decide +kernel
theorem dX6_shift_7 : decode cX6_shift 7 = .ok (.iload_n 3, 1) := by decide +kernel
theorem dX6_shift_8 : decode cX6_shift 8 = .ok (.invokestatic 242, 3) := by decide +kernel
theorem dX6_shift_11 : decode cX6_shift 11 = .ok (.ifCond .ne 5, 3) := by decide +kernel
theorem dX6_shift_14 : decode cX6_shift 14 = .ok (.iconst (-1), 1) := by decide +kernel
theorem dX6_shift_15 : decode cX6_shift 15 = .ok (.ireturn, 1) := by decide +kernel
theorem dX6_shift_16 : decode cX6_shift 16 = .ok (.aload_n 0, 1) := by decide +kernel
theorem dX6_shift_17 : decode cX6_shift 17 = .ok (.getfield 48, 3) := by decide +kernel
theorem dX6_shift_20 : decode cX6_shift 20 = .ok (.iload_n 1, 1) := by decide +kernel
theorem dX6_shift_21 : decode cX6_shift 21 = .ok (.aaload, 1) := by decide +kernel
theorem dX6_shift_22 : decode cX6_shift 22 = .ok (.astore 6, 2) := by decide +kernel
theorem dX6_shift_24 : decode cX6_shift 24 = .ok (.aload_n 0, 1) := by decide +kernel
theorem dX6_shift_25 : decode cX6_shift 25 = .ok (.getfield 48, 3) := by decide +kernel
theorem dX6_shift_28 : decode cX6_shift 28 = .ok (.iload_n 3, 1) := by decide +kernel
theorem dX6_shift_29 : decode cX6_shift 29 = .ok (.aaload, 1) := by decide +kernel
theorem dX6_shift_30 : decode cX6_shift 30 = .ok (.astore 7, 2) := by decide +kernel
theorem dX6_shift_32 : decode cX6_shift 32 = .ok (.aload 6, 2) := by decide +kernel
theorem dX6_shift_34 : decode cX6_shift 34 = .ok (.invokevirtual 245, 3) := by decide +kernel
theorem dX6_shift_37 : decode cX6_shift 37 = .ok (.ifCond .ne 11, 3) := by decide +kernel
theorem dX6_shift_40 : decode cX6_shift 40 = .ok (.aload 7, 2) := by decide +kernel
theorem dX6_shift_42 : decode cX6_shift 42 = .ok (.invokevirtual 245, 3) := by decide +kernel
theorem dX6_shift_45 : decode cX6_shift 45 = .ok (.ifCond .eq 6, 3) := by decide +kernel
theorem dX6_shift_48 : decode cX6_shift 48 = .ok (.bipush (-11), 2) := by decide +kernel
theorem dX6_shift_50 : decode cX6_shift 50 = .ok (.ireturn, 1) := by decide +kernel
theorem dX6_shift_51 : decode cX6_shift 51 = .ok (.aload 6, 2) := by decide +kernel
theorem dX6_shift_53 : decode cX6_shift 53 = .ok (.invokevirtual 249, 3) := by decide +kernel
theorem dX6_shift_56 : decode cX6_shift 56 = .ok (.aload 7, 2) := by decide +kernel
theorem dX6_shift_58 : decode cX6_shift 58 = .ok (.invokevirtual 249, 3) := by decide +kernel
theorem dX6_shift_61 : decode cX6_shift 61 = .ok (.if_icmp .eq 6, 3) := by decide +kernel
theorem dX6_shift_64 : decode cX6_shift 64 = .ok (.bipush (-12), 2) := by decide +kernel
theorem dX6_shift_66 : decode cX6_shift 66 = .ok (.ireturn, 1) := by decide +kernel
theorem dX6_shift_67 : decode cX6_shift 67 = .ok (.aload 6, 2) := by decide +kernel
theorem dX6_shift_69 : decode cX6_shift 69 = .ok (.iload_n 2, 1) := by decide +kernel
theorem dX6_shift_70 : decode cX6_shift 70 = .ok (.iload 5, 2) := by decide +kernel
theorem dX6_shift_72 : decode cX6_shift 72 = .ok (.invokevirtual 275, 3) := by decide +kernel
theorem dX6_shift_75 : decode cX6_shift 75 = .ok (.ifCond .eq 15, 3) := by decide +kernel
theorem dX6_shift_78 : decode cX6_shift 78 = .ok (.aload 7, 2) := by decide +kernel
theorem dX6_shift_80 : decode cX6_shift 80 = .ok (.iload 4, 2) := by decide +kernel
theorem dX6_shift_82 : decode cX6_shift 82 = .ok (.iload 5, 2) := by decide +kernel
theorem dX6_shift_84 : decode cX6_shift 84 = .ok (.invokevirtual 275, 3) := by decide +kernel
theorem dX6_shift_87 : decode cX6_shift 87 = .ok (.ifCond .ne 6, 3) := by decide +kernel
theorem dX6_shift_90 : decode cX6_shift 90 = .ok (.bipush (-13), 2) := by decide +kernel
theorem dX6_shift_92 : decode cX6_shift 92 = .ok (.ireturn, 1) := by decide +kernel
theorem dX6_shift_93 : decode cX6_shift 93 = .ok (.aload 7, 2) := by decide +kernel
theorem dX6_shift_95 : decode cX6_shift 95 = .ok (.iload 4, 2) := by decide +kernel
theorem dX6_shift_97 : decode cX6_shift 97 = .ok (.aload 6, 2) := by decide +kernel
theorem dX6_shift_99 : decode cX6_shift 99 = .ok (.iload_n 2, 1) := by decide +kernel
theorem dX6_shift_100 : decode cX6_shift 100 = .ok (.iload 5, 2) := by decide +kernel
theorem dX6_shift_102 : decode cX6_shift 102 = .ok (.invokevirtual 278, 3) := by decide +kernel
theorem dX6_shift_105 : decode cX6_shift 105 = .ok (.iload 5, 2) := by decide +kernel
theorem dX6_shift_107 : decode cX6_shift 107 = .ok (.ireturn, 1) := by decide +kernel
theorem dX6_isOnPlane_0 : decode cX6_isOnPlane 0 = .ok (.iload_n 0, 1) := by decide +kernel
theorem dX6_isOnPlane_1 : decode cX6_isOnPlane 1 = .ok (.ifCond .lt 23, 3) := by decide +kernel
theorem dX6_isOnPlane_4 : decode cX6_isOnPlane 4 = .ok (.iload_n 0, 1) := by decide +kernel
theorem dX6_isOnPlane_5 : decode cX6_isOnPlane 5 = .ok (.bipush 32, 2) := by decide +kernel
theorem dX6_isOnPlane_7 : decode cX6_isOnPlane 7 = .ok (.if_icmp .ge 17, 3) := by decide +kernel
theorem dX6_isOnPlane_10 : decode cX6_isOnPlane 10 = .ok (.iload_n 1, 1) := by decide +kernel
theorem dX6_isOnPlane_11 : decode cX6_isOnPlane 11 = .ok (.ifCond .lt 13, 3) := by decide +kernel
theorem dX6_isOnPlane_14 : decode cX6_isOnPlane 14 = .ok (.iload_n 1, 1) := by decide +kernel
theorem dX6_isOnPlane_15 : decode cX6_isOnPlane 15 = .ok (.bipush 32, 2) := by decide +kernel
theorem dX6_isOnPlane_17 : decode cX6_isOnPlane 17 = .ok (.if_icmp .ge 7, 3) := by decide +kernel
theorem dX6_isOnPlane_20 : decode cX6_isOnPlane 20 = .ok (.iconst 1, 1) := by decide +kernel
theorem dX6_isOnPlane_21 : decode cX6_isOnPlane 21 = .ok (.goto 4, 3) := by decide +kernel
theorem dX6_isOnPlane_24 : decode cX6_isOnPlane 24 = .ok (.iconst 0, 1) := by decide +kernel
theorem dX6_isOnPlane_25 : decode cX6_isOnPlane 25 = .ok (.ireturn, 1) := by decide +kernel
theorem dX6_isChannel_0 : decode cX6_isChannel 0 = .ok (.iload_n 0, 1) := by decide +kernel
theorem dX6_isChannel_1 : decode cX6_isChannel 1 = .ok (.ifCond .lt 13, 3) := by decide +kernel
theorem dX6_isChannel_4 : decode cX6_isChannel 4 = .ok (.iload_n 0, 1) := by decide +kernel
theorem dX6_isChannel_5 : decode cX6_isChannel 5 = .ok (.bipush 20, 2) := by decide +kernel
theorem dX6_isChannel_7 : decode cX6_isChannel 7 = .ok (.if_icmp .ge 7, 3) := by decide +kernel
theorem dX6_isChannel_10 : decode cX6_isChannel 10 = .ok (.iconst 1, 1) := by decide +kernel
theorem dX6_isChannel_11 : decode cX6_isChannel 11 = .ok (.goto 4, 3) := by decide +kernel
theorem dX6_isChannel_14 : decode cX6_isChannel 14 = .ok (.iconst 0, 1) := by decide +kernel
theorem dX6_isChannel_15 : decode cX6_isChannel 15 = .ok (.ireturn, 1) := by decide +kernel
theorem dX6_isRule_0 : decode cX6_isRule 0 = .ok (.iload_n 0, 1) := by decide +kernel
theorem dX6_isRule_1 : decode cX6_isRule 1 = .ok (.ifCond .lt 12, 3) := by decide +kernel
theorem dX6_isRule_4 : decode cX6_isRule 4 = .ok (.iload_n 0, 1) := by decide +kernel
theorem dX6_isRule_5 : decode cX6_isRule 5 = .ok (.iconst 3, 1) := by decide +kernel
theorem dX6_isRule_6 : decode cX6_isRule 6 = .ok (.if_icmp .ge 7, 3) := by decide +kernel
theorem dX6_isRule_9 : decode cX6_isRule 9 = .ok (.iconst 1, 1) := by decide +kernel
theorem dX6_isRule_10 : decode cX6_isRule 10 = .ok (.goto 4, 3) := by decide +kernel
theorem dX6_isRule_13 : decode cX6_isRule 13 = .ok (.iconst 0, 1) := by decide +kernel
theorem dX6_isRule_14 : decode cX6_isRule 14 = .ok (.ireturn, 1) := by decide +kernel
theorem dX6_isNear_0 : decode cX6_isNear 0 = .ok (.iload_n 0, 1) := by decide +kernel
theorem dX6_isNear_1 : decode cX6_isNear 1 = .ok (.ifCond .lt 13, 3) := by decide +kernel
theorem dX6_isNear_4 : decode cX6_isNear 4 = .ok (.iload_n 0, 1) := by decide +kernel
theorem dX6_isNear_5 : decode cX6_isNear 5 = .ok (.bipush 40, 2) := by decide +kernel
theorem dX6_isNear_7 : decode cX6_isNear 7 = .ok (.if_icmp .gt 7, 3) := by decide +kernel
theorem dX6_isNear_10 : decode cX6_isNear 10 = .ok (.iconst 1, 1) := by decide +kernel
theorem dX6_isNear_11 : decode cX6_isNear 11 = .ok (.goto 4, 3) := by decide +kernel
theorem dX6_isNear_14 : decode cX6_isNear 14 = .ok (.iconst 0, 1) := by decide +kernel
theorem dX6_isNear_15 : decode cX6_isNear 15 = .ok (.ireturn, 1) := by decide +kernel
theorem dX6_isGap_0 : decode cX6_isGap 0 = .ok (.iload_n 0, 1) := by decide +kernel
theorem dX6_isGap_1 : decode cX6_isGap 1 = .ok (.iconst 1, 1) := by decide +kernel
theorem dX6_isGap_2 : decode cX6_isGap 2 = .ok (.if_icmp .lt 12, 3) := by decide +kernel
theorem dX6_isGap_5 : decode cX6_isGap 5 = .ok (.iload_n 0, 1) := by decide +kernel
theorem dX6_isGap_6 : decode cX6_isGap 6 = .ok (.iconst 4, 1) := by decide +kernel
theorem dX6_isGap_7 : decode cX6_isGap 7 = .ok (.if_icmp .gt 7, 3) := by decide +kernel
theorem dX6_isGap_10 : decode cX6_isGap 10 = .ok (.iconst 1, 1) := by decide +kernel
theorem dX6_isGap_11 : decode cX6_isGap 11 = .ok (.goto 4, 3) := by decide +kernel
theorem dX6_isGap_14 : decode cX6_isGap 14 = .ok (.iconst 0, 1) := by decide +kernel
theorem dX6_isGap_15 : decode cX6_isGap 15 = .ok (.ireturn, 1) := by decide +kernel
theorem dX6_isPart_0 : decode cX6_isPart 0 = .ok (.iload_n 0, 1) := by decide +kernel
theorem dX6_isPart_1 : decode cX6_isPart 1 = .ok (.ifCond .eq 8, 3) := by decide +kernel
theorem dX6_isPart_4 : decode cX6_isPart 4 = .ok (.iload_n 0, 1) := by decide +kernel
theorem dX6_isPart_5 : decode cX6_isPart 5 = .ok (.iconst 1, 1) := by decide +kernel
theorem dX6_isPart_6 : decode cX6_isPart 6 = .ok (.if_icmp .ne 7, 3) := by decide +kernel
theorem dX6_isPart_9 : decode cX6_isPart 9 = .ok (.iconst 1, 1) := by decide +kernel
theorem dX6_isPart_10 : decode cX6_isPart 10 = .ok (.goto 4, 3) := by decide +kernel
theorem dX6_isPart_13 : decode cX6_isPart 13 = .ok (.iconst 0, 1) := by decide +kernel
theorem dX6_isPart_14 : decode cX6_isPart 14 = .ok (.ireturn, 1) := by decide +kernel
theorem dX6_isTape_0 : decode cX6_isTape 0 = .ok (.iload_n 0, 1) := by decide +kernel
theorem dX6_isTape_1 : decode cX6_isTape 1 = .ok (.ifCond .lt 13, 3) := by decide +kernel
theorem dX6_isTape_4 : decode cX6_isTape 4 = .ok (.iload_n 0, 1) := by decide +kernel
theorem dX6_isTape_5 : decode cX6_isTape 5 = .ok (.bipush 6, 2) := by decide +kernel
theorem dX6_isTape_7 : decode cX6_isTape 7 = .ok (.if_icmp .ge 7, 3) := by decide +kernel
theorem dX6_isTape_10 : decode cX6_isTape 10 = .ok (.iconst 1, 1) := by decide +kernel
theorem dX6_isTape_11 : decode cX6_isTape 11 = .ok (.goto 4, 3) := by decide +kernel
theorem dX6_isTape_14 : decode cX6_isTape 14 = .ok (.iconst 0, 1) := by decide +kernel
theorem dX6_isTape_15 : decode cX6_isTape 15 = .ok (.ireturn, 1) := by decide +kernel
theorem dX6_firstOtherwise_0 : decode cX6_firstOtherwise 0 = .ok (.iconst 0, 1) := by decide +kernel
theorem dX6_firstOtherwise_1 : decode cX6_firstOtherwise 1 = .ok (.istore_n 2, 1) := by decide +kernel
theorem dX6_firstOtherwise_2 : decode cX6_firstOtherwise 2 = .ok (.iload_n 2, 1) := by decide +kernel
theorem dX6_firstOtherwise_3 : decode cX6_firstOtherwise 3 = .ok (.aload_n 0, 1) := by decide +kernel
theorem dX6_firstOtherwise_4 : decode cX6_firstOtherwise 4 = .ok (.invokevirtual 229, 3) := by decide +kernel
theorem dX6_firstOtherwise_7 : decode cX6_firstOtherwise 7 = .ok (.if_icmp .ge 28, 3) := by decide +kernel
theorem dX6_firstOtherwise_10 : decode cX6_firstOtherwise 10 = .ok (.aload_n 1, 1) := by decide +kernel
theorem dX6_firstOtherwise_11 : decode cX6_firstOtherwise 11 = .ok (.aload_n 0, 1) := by decide +kernel
theorem dX6_firstOtherwise_12 : decode cX6_firstOtherwise 12 = .ok (.iload_n 2, 1) := by decide +kernel
theorem dX6_firstOtherwise_13 : decode cX6_firstOtherwise 13 = .ok (.invokevirtual 230, 3) := by decide +kernel
theorem dX6_firstOtherwise_16 : decode cX6_firstOtherwise 16 = .ok (.invokevirtual 95, 3) := by decide +kernel
theorem dX6_firstOtherwise_19 : decode cX6_firstOtherwise 19 = .ok (.aload_n 0, 1) := by decide +kernel
theorem dX6_firstOtherwise_20 : decode cX6_firstOtherwise 20 = .ok (.iload_n 2, 1) := by decide +kernel
theorem dX6_firstOtherwise_21 : decode cX6_firstOtherwise 21 = .ok (.invokevirtual 233, 3) := by decide +kernel
theorem dX6_firstOtherwise_24 : decode cX6_firstOtherwise 24 = .ok (.if_icmp .eq 5, 3) := by decide +kernel
theorem dX6_firstOtherwise_27 : decode cX6_firstOtherwise 27 = .ok (.iload_n 2, 1) := by decide +kernel
theorem dX6_firstOtherwise_28 : decode cX6_firstOtherwise 28 = .ok (.ireturn, 1) := by decide +kernel
theorem dX6_firstOtherwise_29 : decode cX6_firstOtherwise 29 = .ok (.iinc 2 1, 3) := by decide +kernel
theorem dX6_firstOtherwise_32 : decode cX6_firstOtherwise 32 = .ok (.goto (-30), 3) := by decide +kernel
theorem dX6_firstOtherwise_35 : decode cX6_firstOtherwise 35 = .ok (.bipush (-5), 2) := by decide +kernel
theorem dX6_firstOtherwise_37 : decode cX6_firstOtherwise 37 = .ok (.ireturn, 1) := by decide +kernel
theorem dX6_band_0 : decode cX6_band 0 = .ok (.iload_n 0, 1) := by decide +kernel
theorem dX6_band_1 : decode cX6_band 1 = .ok (.ifCond .lt 7, 3) := by decide +kernel
theorem dX6_band_4 : decode cX6_band 4 = .ok (.iload_n 1, 1) := by decide +kernel
theorem dX6_band_5 : decode cX6_band 5 = .ok (.ifCond .gt 5, 3) := by decide +kernel
theorem dX6_band_8 : decode cX6_band 8 = .ok (.iconst 0, 1) := by decide +kernel
theorem dX6_band_9 : decode cX6_band 9 = .ok (.ireturn, 1) := by decide +kernel
theorem dX6_band_10 : decode cX6_band 10 = .ok (.iconst 1, 1) := by decide +kernel
theorem dX6_band_11 : decode cX6_band 11 = .ok (.iconst 2, 1) := by decide +kernel
theorem dX6_band_12 : decode cX6_band 12 = .ok (.iload_n 1, 1) := by decide +kernel
theorem dX6_band_13 : decode cX6_band 13 = .ok (.imul, 1) := by decide +kernel
theorem dX6_band_14 : decode cX6_band 14 = .ok (.iconst 1, 1) := by decide +kernel
theorem dX6_band_15 : decode cX6_band 15 = .ok (.isub, 1) := by decide +kernel
theorem dX6_band_16 : decode cX6_band 16 = .ok (.ishl, 1) := by decide +kernel
theorem dX6_band_17 : decode cX6_band 17 = .ok (.iconst 1, 1) := by decide +kernel
theorem dX6_band_18 : decode cX6_band 18 = .ok (.isub, 1) := by decide +kernel
theorem dX6_band_19 : decode cX6_band 19 = .ok (.iload_n 0, 1) := by decide +kernel
theorem dX6_band_20 : decode cX6_band 20 = .ok (.ishl, 1) := by decide +kernel
theorem dX6_band_21 : decode cX6_band 21 = .ok (.iload_n 1, 1) := by decide +kernel
theorem dX6_band_22 : decode cX6_band 22 = .ok (.iconst 1, 1) := by decide +kernel
theorem dX6_band_23 : decode cX6_band 23 = .ok (.isub, 1) := by decide +kernel
theorem dX6_band_24 : decode cX6_band 24 = .ok (.ishr, 1) := by decide +kernel
theorem dX6_band_25 : decode cX6_band 25 = .ok (.ireturn, 1) := by decide +kernel
theorem dX6_leastOf_0 : decode cX6_leastOf 0 = .ok (.iconst 0, 1) := by decide +kernel
theorem dX6_leastOf_1 : decode cX6_leastOf 1 = .ok (.istore_n 1, 1) := by decide +kernel
theorem dX6_leastOf_2 : decode cX6_leastOf 2 = .ok (.iload_n 1, 1) := by decide +kernel
theorem dX6_leastOf_3 : decode cX6_leastOf 3 = .ok (.bipush 20, 2) := by decide +kernel
theorem dX6_leastOf_5 : decode cX6_leastOf 5 = .ok (.if_icmp .ge 20, 3) := by decide +kernel
theorem dX6_leastOf_8 : decode cX6_leastOf 8 = .ok (.iload_n 0, 1) := by decide +kernel
theorem dX6_leastOf_9 : decode cX6_leastOf 9 = .ok (.iload_n 1, 1) := by decide +kernel
theorem dX6_leastOf_10 : decode cX6_leastOf 10 = .ok (.ishr, 1) := by decide +kernel
theorem dX6_leastOf_11 : decode cX6_leastOf 11 = .ok (.iconst 1, 1) := by decide +kernel
theorem dX6_leastOf_12 : decode cX6_leastOf 12 = .ok (.iand, 1) := by decide +kernel
theorem dX6_leastOf_13 : decode cX6_leastOf 13 = .ok (.iconst 1, 1) := by decide +kernel
theorem dX6_leastOf_14 : decode cX6_leastOf 14 = .ok (.if_icmp .ne 5, 3) := by decide +kernel
theorem dX6_leastOf_17 : decode cX6_leastOf 17 = .ok (.iload_n 1, 1) := by decide +kernel
theorem dX6_leastOf_18 : decode cX6_leastOf 18 = .ok (.ireturn, 1) := by decide +kernel
theorem dX6_leastOf_19 : decode cX6_leastOf 19 = .ok (.iinc 1 1, 3) := by decide +kernel
theorem dX6_leastOf_22 : decode cX6_leastOf 22 = .ok (.goto (-20), 3) := by decide +kernel
theorem dX6_leastOf_25 : decode cX6_leastOf 25 = .ok (.bipush (-5), 2) := by decide +kernel
theorem dX6_leastOf_27 : decode cX6_leastOf 27 = .ok (.ireturn, 1) := by decide +kernel
theorem dX6_partOf_0 : decode cX6_partOf 0 = .ok (.iload_n 0, 1) := by decide +kernel
theorem dX6_partOf_1 : decode cX6_partOf 1 = .ok (.istore_n 3, 1) := by decide +kernel
theorem dX6_partOf_2 : decode cX6_partOf 2 = .ok (.iload_n 1, 1) := by decide +kernel
theorem dX6_partOf_3 : decode cX6_partOf 3 = .ok (.istore 4, 2) := by decide +kernel
theorem dX6_partOf_5 : decode cX6_partOf 5 = .ok (.iconst 0, 1) := by decide +kernel
theorem dX6_partOf_6 : decode cX6_partOf 6 = .ok (.istore 5, 2) := by decide +kernel
theorem dX6_partOf_8 : decode cX6_partOf 8 = .ok (.iload 5, 2) := by decide +kernel
theorem dX6_partOf_10 : decode cX6_partOf 10 = .ok (.bipush 64, 2) := by decide +kernel
theorem dX6_partOf_12 : decode cX6_partOf 12 = .ok (.if_icmp .ge 27, 3) := by decide +kernel
theorem dX6_partOf_15 : decode cX6_partOf 15 = .ok (.iload 4, 2) := by decide +kernel
theorem dX6_partOf_17 : decode cX6_partOf 17 = .ok (.ifCond .eq 22, 3) := by decide +kernel
theorem dX6_partOf_20 : decode cX6_partOf 20 = .ok (.iload_n 3, 1) := by decide +kernel
theorem dX6_partOf_21 : decode cX6_partOf 21 = .ok (.iload 4, 2) := by decide +kernel
theorem dX6_partOf_23 : decode cX6_partOf 23 = .ok (.irem, 1) := by decide +kernel
theorem dX6_partOf_24 : decode cX6_partOf 24 = .ok (.istore 6, 2) := by decide +kernel
theorem dX6_partOf_26 : decode cX6_partOf 26 = .ok (.iload 4, 2) := by decide +kernel
theorem dX6_partOf_28 : decode cX6_partOf 28 = .ok (.istore_n 3, 1) := by decide +kernel
theorem dX6_partOf_29 : decode cX6_partOf 29 = .ok (.iload 6, 2) := by decide +kernel
theorem dX6_partOf_31 : decode cX6_partOf 31 = .ok (.istore 4, 2) := by decide +kernel
theorem dX6_partOf_33 : decode cX6_partOf 33 = .ok (.iinc 5 1, 3) := by decide +kernel
theorem dX6_partOf_36 : decode cX6_partOf 36 = .ok (.goto (-28), 3) := by decide +kernel
theorem dX6_partOf_39 : decode cX6_partOf 39 = .ok (.iload_n 3, 1) := by decide +kernel
theorem dX6_partOf_40 : decode cX6_partOf 40 = .ok (.ifCond .ne 7, 3) := by decide +kernel
theorem dX6_partOf_43 : decode cX6_partOf 43 = .ok (.ldc2_w 217, 3) := by decide +kernel
theorem dX6_partOf_46 : decode cX6_partOf 46 = .ok (.lreturn, 1) := by decide +kernel
theorem dX6_partOf_47 : decode cX6_partOf 47 = .ok (.iload_n 2, 1) := by decide +kernel
theorem dX6_partOf_48 : decode cX6_partOf 48 = .ok (.ifCond .ne 10, 3) := by decide +kernel
theorem dX6_partOf_51 : decode cX6_partOf 51 = .ok (.iload_n 0, 1) := by decide +kernel
theorem dX6_partOf_52 : decode cX6_partOf 52 = .ok (.iload_n 3, 1) := by decide +kernel
theorem dX6_partOf_53 : decode cX6_partOf 53 = .ok (.idiv, 1) := by decide +kernel
theorem dX6_partOf_54 : decode cX6_partOf 54 = .ok (.i2l, 1) := by decide +kernel
theorem dX6_partOf_55 : decode cX6_partOf 55 = .ok (.goto 7, 3) := by decide +kernel
theorem dX6_partOf_58 : decode cX6_partOf 58 = .ok (.iload_n 1, 1) := by decide +kernel
theorem dX6_partOf_59 : decode cX6_partOf 59 = .ok (.iload_n 3, 1) := by decide +kernel
theorem dX6_partOf_60 : decode cX6_partOf 60 = .ok (.idiv, 1) := by decide +kernel
theorem dX6_partOf_61 : decode cX6_partOf 61 = .ok (.i2l, 1) := by decide +kernel
theorem dX6_partOf_62 : decode cX6_partOf 62 = .ok (.lreturn, 1) := by decide +kernel
theorem dX7_init_0 : decode cX7_init 0 = .ok (.aload_n 0, 1) := by decide +kernel
theorem dX7_init_1 : decode cX7_init 1 = .ok (.invokespecial 3, 3) := by decide +kernel
theorem dX7_init_4 : decode cX7_init 4 = .ok (.aload_n 0, 1) := by decide +kernel
theorem dX7_init_5 : decode cX7_init 5 = .ok (.bipush 84, 2) := by decide +kernel
theorem dX7_init_7 : decode cX7_init 7 = .ok (.newarray .int, 2) := by decide +kernel
theorem dX7_init_9 : decode cX7_init 9 = .ok (.putfield 11, 3) := by decide +kernel
theorem dX7_init_12 : decode cX7_init 12 = .ok (.aload_n 0, 1) := by decide +kernel
theorem dX7_init_13 : decode cX7_init 13 = .ok (.bipush 84, 2) := by decide +kernel
theorem dX7_init_15 : decode cX7_init 15 = .ok (.newarray .int, 2) := by decide +kernel
theorem dX7_init_17 : decode cX7_init 17 = .ok (.putfield 15, 3) := by decide +kernel
theorem dX7_init_20 : decode cX7_init 20 = .ok (.aload_n 0, 1) := by decide +kernel
theorem dX7_init_21 : decode cX7_init 21 = .ok (.bipush 84, 2) := by decide +kernel
theorem dX7_init_23 : decode cX7_init 23 = .ok (.newarray .int, 2) := by decide +kernel
theorem dX7_init_25 : decode cX7_init 25 = .ok (.putfield 18, 3) := by decide +kernel
theorem dX7_init_28 : decode cX7_init 28 = .ok (.aload_n 0, 1) := by decide +kernel
theorem dX7_init_29 : decode cX7_init 29 = .ok (.bipush 100, 2) := by decide +kernel
theorem dX7_init_31 : decode cX7_init 31 = .ok (.newarray .int, 2) := by decide +kernel
theorem dX7_init_33 : decode cX7_init 33 = .ok (.putfield 21, 3) := by decide +kernel
theorem dX7_init_36 : decode cX7_init 36 = .ok (.aload_n 0, 1) := by decide +kernel
theorem dX7_init_37 : decode cX7_init 37 = .ok (.bipush 32, 2) := by decide +kernel
theorem dX7_init_39 : decode cX7_init 39 = .ok (.newarray .int, 2) := by decide +kernel
theorem dX7_init_41 : decode cX7_init 41 = .ok (.putfield 24, 3) := by decide +kernel
theorem dX7_init_44 : decode cX7_init 44 = .ok (.aload_n 0, 1) := by decide +kernel
theorem dX7_init_45 : decode cX7_init 45 = .ok (.bipush 6, 2) := by decide +kernel
theorem dX7_init_47 : decode cX7_init 47 = .ok (.newarray .int, 2) := by decide +kernel
theorem dX7_init_49 : decode cX7_init 49 = .ok (.dup, 1) := by decide +kernel
theorem dX7_init_50 : decode cX7_init 50 = .ok (.iconst 0, 1) := by decide +kernel
theorem dX7_init_51 : decode cX7_init 51 = .ok (.iconst (-1), 1) := by decide +kernel
theorem dX7_init_52 : decode cX7_init 52 = .ok (.iastore, 1) := by decide +kernel
theorem dX7_init_53 : decode cX7_init 53 = .ok (.dup, 1) := by decide +kernel
theorem dX7_init_54 : decode cX7_init 54 = .ok (.iconst 1, 1) := by decide +kernel
theorem dX7_init_55 : decode cX7_init 55 = .ok (.iconst (-1), 1) := by decide +kernel
theorem dX7_init_56 : decode cX7_init 56 = .ok (.iastore, 1) := by decide +kernel
theorem dX7_init_57 : decode cX7_init 57 = .ok (.dup, 1) := by decide +kernel
theorem dX7_init_58 : decode cX7_init 58 = .ok (.iconst 2, 1) := by decide +kernel
theorem dX7_init_59 : decode cX7_init 59 = .ok (.iconst (-1), 1) := by decide +kernel
theorem dX7_init_60 : decode cX7_init 60 = .ok (.iastore, 1) := by decide +kernel
theorem dX7_init_61 : decode cX7_init 61 = .ok (.dup, 1) := by decide +kernel
theorem dX7_init_62 : decode cX7_init 62 = .ok (.iconst 3, 1) := by decide +kernel
theorem dX7_init_63 : decode cX7_init 63 = .ok (.iconst (-1), 1) := by decide +kernel
theorem dX7_init_64 : decode cX7_init 64 = .ok (.iastore, 1) := by decide +kernel
theorem dX7_init_65 : decode cX7_init 65 = .ok (.dup, 1) := by decide +kernel
theorem dX7_init_66 : decode cX7_init 66 = .ok (.iconst 4, 1) := by decide +kernel
theorem dX7_init_67 : decode cX7_init 67 = .ok (.iconst (-1), 1) := by decide +kernel
theorem dX7_init_68 : decode cX7_init 68 = .ok (.iastore, 1) := by decide +kernel
theorem dX7_init_69 : decode cX7_init 69 = .ok (.dup, 1) := by decide +kernel
theorem dX7_init_70 : decode cX7_init 70 = .ok (.iconst 5, 1) := by decide +kernel
theorem dX7_init_71 : decode cX7_init 71 = .ok (.iconst (-1), 1) := by decide +kernel
theorem dX7_init_72 : decode cX7_init 72 = .ok (.iastore, 1) := by decide +kernel
theorem dX7_init_73 : decode cX7_init 73 = .ok (.putfield 27, 3) := by decide +kernel
theorem dX7_init_76 : decode cX7_init 76 = .ok (.aload_n 0, 1) := by decide +kernel
theorem dX7_init_77 : decode cX7_init 77 = .ok (.bipush 6, 2) := by decide +kernel
theorem dX7_init_79 : decode cX7_init 79 = .ok (.newarray .int, 2) := by decide +kernel
theorem dX7_init_81 : decode cX7_init 81 = .ok (.putfield 30, 3) := by decide +kernel
theorem dX7_init_84 : decode cX7_init 84 = .ok (.aload_n 0, 1) := by decide +kernel
theorem dX7_init_85 : decode cX7_init 85 = .ok (.sipush 360, 3) := by decide +kernel
theorem dX7_init_88 : decode cX7_init 88 = .ok (.newarray .long, 2) := by decide +kernel
theorem dX7_init_90 : decode cX7_init 90 = .ok (.putfield 33, 3) := by decide +kernel
theorem dX7_init_93 : decode cX7_init 93 = .ok (.iconst 0, 1) := by decide +kernel
theorem dX7_init_94 : decode cX7_init 94 = .ok (.istore_n 1, 1) := by decide +kernel
theorem dX7_init_95 : decode cX7_init 95 = .ok (.iload_n 1, 1) := by decide +kernel
theorem dX7_init_96 : decode cX7_init 96 = .ok (.iconst 3, 1) := by decide +kernel
theorem dX7_init_97 : decode cX7_init 97 = .ok (.if_icmp .ge 23, 3) := by decide +kernel
theorem dX7_init_100 : decode cX7_init 100 = .ok (.aload_n 0, 1) := by decide +kernel
theorem dX7_init_101 : decode cX7_init 101 = .ok (.getfield 11, 3) := by decide +kernel
theorem dX7_init_104 : decode cX7_init 104 = .ok (.bipush 36, 2) := by decide +kernel
theorem dX7_init_106 : decode cX7_init 106 = .ok (.iconst 2, 1) := by decide +kernel
theorem dX7_init_107 : decode cX7_init 107 = .ok (.iload_n 1, 1) := by decide +kernel
theorem dX7_init_108 : decode cX7_init 108 = .ok (.imul, 1) := by decide +kernel
theorem dX7_init_109 : decode cX7_init 109 = .ok (.iadd, 1) := by decide +kernel
theorem dX7_init_110 : decode cX7_init 110 = .ok (.iconst 1, 1) := by decide +kernel
theorem dX7_init_111 : decode cX7_init 111 = .ok (.iadd, 1) := by decide +kernel
theorem dX7_init_112 : decode cX7_init 112 = .ok (.iconst 1, 1) := by decide +kernel
theorem dX7_init_113 : decode cX7_init 113 = .ok (.iastore, 1) := by decide +kernel
theorem dX7_init_114 : decode cX7_init 114 = .ok (.iinc 1 1, 3) := by decide +kernel
theorem dX7_init_117 : decode cX7_init 117 = .ok (.goto (-22), 3) := by decide +kernel
theorem dX7_init_120 : decode cX7_init 120 = .ok (.return_, 1) := by decide +kernel
theorem dX7_in_0 : decode cX7_in 0 = .ok (.lload_n 0, 1) := by decide +kernel
theorem dX7_in_1 : decode cX7_in 1 = .ok (.lload_n 2, 1) := by decide +kernel
theorem dX7_in_2 : decode cX7_in 2 = .ok (.lcmp, 1) := by decide +kernel
theorem dX7_in_3 : decode cX7_in 3 = .ok (.ifCond .lt 14, 3) := by decide +kernel
theorem dX7_in_6 : decode cX7_in 6 = .ok (.lload_n 0, 1) := by decide +kernel
theorem dX7_in_7 : decode cX7_in 7 = .ok (.lload 4, 2) := by decide +kernel
theorem dX7_in_9 : decode cX7_in 9 = .ok (.lcmp, 1) := by decide +kernel
theorem dX7_in_10 : decode cX7_in 10 = .ok (.ifCond .gt 7, 3) := by decide +kernel
theorem dX7_in_13 : decode cX7_in 13 = .ok (.iconst 1, 1) := by decide +kernel
theorem dX7_in_14 : decode cX7_in 14 = .ok (.goto 4, 3) := by decide +kernel
theorem dX7_in_17 : decode cX7_in 17 = .ok (.iconst 0, 1) := by decide +kernel
theorem dX7_in_18 : decode cX7_in 18 = .ok (.ireturn, 1) := by decide +kernel
theorem dX7_copies_0 : decode cX7_copies 0 = .ok (.iconst 0, 1) := by decide +kernel
theorem dX7_copies_1 : decode cX7_copies 1 = .ok (.istore_n 2, 1) := by decide +kernel
theorem dX7_copies_2 : decode cX7_copies 2 = .ok (.iload_n 2, 1) := by decide +kernel
theorem dX7_copies_3 : decode cX7_copies 3 = .ok (.bipush 84, 2) := by decide +kernel
theorem dX7_copies_5 : decode cX7_copies 5 = .ok (.if_icmp .ge 15, 3) := by decide +kernel
theorem dX7_copies_8 : decode cX7_copies 8 = .ok (.aload_n 1, 1) := by decide +kernel
theorem dX7_copies_9 : decode cX7_copies 9 = .ok (.iload_n 2, 1) := by decide +kernel
theorem dX7_copies_10 : decode cX7_copies 10 = .ok (.aload_n 0, 1) := by decide +kernel
theorem dX7_copies_11 : decode cX7_copies 11 = .ok (.iload_n 2, 1) := by decide +kernel
theorem dX7_copies_12 : decode cX7_copies 12 = .ok (.iaload, 1) := by decide +kernel
theorem dX7_copies_13 : decode cX7_copies 13 = .ok (.iastore, 1) := by decide +kernel
theorem dX7_copies_14 : decode cX7_copies 14 = .ok (.iinc 2 1, 3) := by decide +kernel
theorem dX7_copies_17 : decode cX7_copies 17 = .ok (.goto (-15), 3) := by decide +kernel
theorem dX7_copies_20 : decode cX7_copies 20 = .ok (.return_, 1) := by decide +kernel
theorem dX7_isStation_0 : decode cX7_isStation 0 = .ok (.iload_n 1, 1) := by decide +kernel
theorem dX7_isStation_1 : decode cX7_isStation 1 = .ok (.i2l, 1) := by decide +kernel
theorem dX7_isStation_2 : decode cX7_isStation 2 = .ok (.lconst 0, 1) := by decide +kernel
theorem dX7_isStation_3 : decode cX7_isStation 3 = .ok (.aload_n 0, 1) := by decide +kernel
theorem dX7_isStation_4 : decode cX7_isStation 4 = .ok (.getfield 11, 3) := by decide +kernel
theorem dX7_isStation_7 : decode cX7_isStation 7 = .ok (.iconst 0, 1) := by decide +kernel
theorem dX7_isStation_8 : decode cX7_isStation 8 = .ok (.iaload, 1) := by decide +kernel
theorem dX7_isStation_9 : decode cX7_isStation 9 = .ok (.iconst 1, 1) := by decide +kernel
theorem dX7_isStation_10 : decode cX7_isStation 10 = .ok (.isub, 1) := by decide +kernel
theorem dX7_isStation_11 : decode cX7_isStation 11 = .ok (.i2l, 1) := by decide +kernel
theorem dX7_isStation_12 : decode cX7_isStation 12 = .ok (.invokestatic 37, 3) := by decide +kernel
theorem dX7_isStation_15 : decode cX7_isStation 15 = .ok (.ireturn, 1) := by decide +kernel
theorem dX7_x_0 : decode cX7_x 0 = .ok (.aload_n 0, 1) := by decide +kernel
theorem dX7_x_1 : decode cX7_x 1 = .ok (.getfield 11, 3) := by decide +kernel
theorem dX7_x_4 : decode cX7_x 4 = .ok (.iconst 4, 1) := by decide +kernel
theorem dX7_x_5 : decode cX7_x 5 = .ok (.iconst 4, 1) := by decide +kernel
theorem dX7_x_6 : decode cX7_x 6 = .ok (.iload_n 1, 1) := by decide +kernel
theorem dX7_x_7 : decode cX7_x 7 = .ok (.imul, 1) := by decide +kernel
theorem dX7_x_8 : decode cX7_x 8 = .ok (.iadd, 1) := by decide +kernel
theorem dX7_x_9 : decode cX7_x 9 = .ok (.iaload, 1) := by decide +kernel
theorem dX7_x_10 : decode cX7_x 10 = .ok (.ireturn, 1) := by decide +kernel
theorem dX7_y_0 : decode cX7_y 0 = .ok (.aload_n 0, 1) := by decide +kernel
theorem dX7_y_1 : decode cX7_y 1 = .ok (.getfield 11, 3) := by decide +kernel
theorem dX7_y_4 : decode cX7_y 4 = .ok (.iconst 4, 1) := by decide +kernel
theorem dX7_y_5 : decode cX7_y 5 = .ok (.iconst 4, 1) := by decide +kernel
theorem dX7_y_6 : decode cX7_y 6 = .ok (.iload_n 1, 1) := by decide +kernel
theorem dX7_y_7 : decode cX7_y 7 = .ok (.imul, 1) := by decide +kernel
theorem dX7_y_8 : decode cX7_y 8 = .ok (.iadd, 1) := by decide +kernel
theorem dX7_y_9 : decode cX7_y 9 = .ok (.iconst 1, 1) := by decide +kernel
theorem dX7_y_10 : decode cX7_y 10 = .ok (.iadd, 1) := by decide +kernel
theorem dX7_y_11 : decode cX7_y 11 = .ok (.iaload, 1) := by decide +kernel
theorem dX7_y_12 : decode cX7_y 12 = .ok (.ireturn, 1) := by decide +kernel
theorem dX7_channelOf_0 : decode cX7_channelOf 0 = .ok (.aload_n 0, 1) := by decide +kernel
theorem dX7_channelOf_1 : decode cX7_channelOf 1 = .ok (.getfield 11, 3) := by decide +kernel
theorem dX7_channelOf_4 : decode cX7_channelOf 4 = .ok (.iconst 4, 1) := by decide +kernel
theorem dX7_channelOf_5 : decode cX7_channelOf 5 = .ok (.iconst 4, 1) := by decide +kernel
theorem dX7_channelOf_6 : decode cX7_channelOf 6 = .ok (.iload_n 1, 1) := by decide +kernel
theorem dX7_channelOf_7 : decode cX7_channelOf 7 = .ok (.imul, 1) := by decide +kernel
theorem dX7_channelOf_8 : decode cX7_channelOf 8 = .ok (.iadd, 1) := by decide +kernel
theorem dX7_channelOf_9 : decode cX7_channelOf 9 = .ok (.iconst 2, 1) := by decide +kernel
theorem dX7_channelOf_10 : decode cX7_channelOf 10 = .ok (.iadd, 1) := by decide +kernel
theorem dX7_channelOf_11 : decode cX7_channelOf 11 = .ok (.iaload, 1) := by decide +kernel
theorem dX7_channelOf_12 : decode cX7_channelOf 12 = .ok (.ireturn, 1) := by decide +kernel
theorem dX7_isFixed_0 : decode cX7_isFixed 0 = .ok (.aload_n 0, 1) := by decide +kernel
theorem dX7_isFixed_1 : decode cX7_isFixed 1 = .ok (.getfield 11, 3) := by decide +kernel
theorem dX7_isFixed_4 : decode cX7_isFixed 4 = .ok (.iconst 4, 1) := by decide +kernel
theorem dX7_isFixed_5 : decode cX7_isFixed 5 = .ok (.iconst 4, 1) := by decide +kernel
theorem dX7_isFixed_6 : decode cX7_isFixed 6 = .ok (.iload_n 1, 1) := by decide +kernel
theorem dX7_isFixed_7 : decode cX7_isFixed 7 = .ok (.imul, 1) := by decide +kernel
theorem dX7_isFixed_8 : decode cX7_isFixed 8 = .ok (.iadd, 1) := by decide +kernel
theorem dX7_isFixed_9 : decode cX7_isFixed 9 = .ok (.iconst 3, 1) := by decide +kernel
theorem dX7_isFixed_10 : decode cX7_isFixed 10 = .ok (.iadd, 1) := by decide +kernel
theorem dX7_isFixed_11 : decode cX7_isFixed 11 = .ok (.iaload, 1) := by decide +kernel
theorem dX7_isFixed_12 : decode cX7_isFixed 12 = .ok (.iconst 1, 1) := by decide +kernel
