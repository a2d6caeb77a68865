theorem dX6_inHours_2 : decode cX6_inHours 2 = .ok (.bipush 60, 2) := by decide +kernel
theorem dX6_inHours_4 : decode cX6_inHours 4 = .ok (.invokestatic 65, 3) := by decide +kernel
theorem dX6_inHours_7 : decode cX6_inHours 7 = .ok (.ifCond .eq 21, 3) := by decide +kernel
theorem dX6_inHours_10 : decode cX6_inHours 10 = .ok (.iload_n 2, 1) := by decide +kernel
theorem dX6_inHours_11 : decode cX6_inHours 11 = .ok (.iconst 0, 1) := by decide +kernel
theorem dX6_inHours_12 : decode cX6_inHours 12 = .ok (.iconst 1, 1) := by decide +kernel
theorem dX6_inHours_13 : decode cX6_inHours 13 = .ok (.invokestatic 65, 3) := by decide +kernel
theorem dX6_inHours_16 : decode cX6_inHours 16 = .ok (.ifCond .eq 12, 3) := by decide +kernel
theorem dX6_inHours_19 : decode cX6_inHours 19 = .ok (.iload_n 3, 1) := by decide +kernel
theorem dX6_inHours_20 : decode cX6_inHours 20 = .ok (.iconst 0, 1) := by decide +kernel
theorem dX6_inHours_21 : decode cX6_inHours 21 = .ok (.iconst 2, 1) := by decide +kernel
theorem dX6_inHours_22 : decode cX6_inHours 22 = .ok (.invokestatic 65, 3) := by decide +kernel
theorem dX6_inHours_25 : decode cX6_inHours 25 = .ok (.ifCond .ne 5, 3) := by decide +kernel
theorem dX6_inHours_28 : decode cX6_inHours 28 = .ok (.iconst (-1), 1) := by decide +kernel
theorem dX6_inHours_29 : decode cX6_inHours 29 = .ok (.ireturn, 1) := by decide +kernel
theorem dX6_inHours_30 : decode cX6_inHours 30 = .ok (.aload_n 0, 1) := by decide +kernel
theorem dX6_inHours_31 : decode cX6_inHours 31 = .ok (.getfield 33, 3) := by decide +kernel
theorem dX6_inHours_34 : decode cX6_inHours 34 = .ok (.aload_n 0, 1) := by decide +kernel
theorem dX6_inHours_35 : decode cX6_inHours 35 = .ok (.getfield 29, 3) := by decide +kernel
theorem dX6_inHours_38 : decode cX6_inHours 38 = .ok (.invokevirtual 156, 3) := by decide +kernel
theorem dX6_inHours_41 : decode cX6_inHours 41 = .ok (.aload_n 0, 1) := by decide +kernel
theorem dX6_inHours_42 : decode cX6_inHours 42 = .ok (.getfield 33, 3) := by decide +kernel
theorem dX6_inHours_45 : decode cX6_inHours 45 = .ok (.invokevirtual 124, 3) := by decide +kernel
theorem dX6_inHours_48 : decode cX6_inHours 48 = .ok (.invokestatic 141, 3) := by decide +kernel
theorem dX6_inHours_51 : decode cX6_inHours 51 = .ok (.istore 4, 2) := by decide +kernel
theorem dX6_inHours_53 : decode cX6_inHours 53 = .ok (.iconst 0, 1) := by decide +kernel
theorem dX6_inHours_54 : decode cX6_inHours 54 = .ok (.istore 5, 2) := by decide +kernel
theorem dX6_inHours_56 : decode cX6_inHours 56 = .ok (.iload 5, 2) := by decide +kernel
theorem dX6_inHours_58 : decode cX6_inHours 58 = .ok (.iload_n 1, 1) := by decide +kernel
theorem dX6_inHours_59 : decode cX6_inHours 59 = .ok (.if_icmp .ge 38, 3) := by decide +kernel
theorem dX6_inHours_62 : decode cX6_inHours 62 = .ok (.aload_n 0, 1) := by decide +kernel
theorem dX6_inHours_63 : decode cX6_inHours 63 = .ok (.getfield 33, 3) := by decide +kernel
theorem dX6_inHours_66 : decode cX6_inHours 66 = .ok (.aload_n 0, 1) := by decide +kernel
theorem dX6_inHours_67 : decode cX6_inHours 67 = .ok (.getfield 19, 3) := by decide +kernel
theorem dX6_inHours_70 : decode cX6_inHours 70 = .ok (.iload_n 2, 1) := by decide +kernel
theorem dX6_inHours_71 : decode cX6_inHours 71 = .ok (.invokevirtual 158, 3) := by decide +kernel
theorem dX6_inHours_74 : decode cX6_inHours 74 = .ok (.iload 4, 2) := by decide +kernel
theorem dX6_inHours_76 : decode cX6_inHours 76 = .ok (.aload_n 0, 1) := by decide +kernel
theorem dX6_inHours_77 : decode cX6_inHours 77 = .ok (.getfield 33, 3) := by decide +kernel
theorem dX6_inHours_80 : decode cX6_inHours 80 = .ok (.invokevirtual 124, 3) := by decide +kernel
theorem dX6_inHours_83 : decode cX6_inHours 83 = .ok (.invokestatic 141, 3) := by decide +kernel
theorem dX6_inHours_86 : decode cX6_inHours 86 = .ok (.invokestatic 162, 3) := by decide +kernel
theorem dX6_inHours_89 : decode cX6_inHours 89 = .ok (.istore 4, 2) := by decide +kernel
theorem dX6_inHours_91 : decode cX6_inHours 91 = .ok (.iinc 5 1, 3) := by decide +kernel
theorem dX6_inHours_94 : decode cX6_inHours 94 = .ok (.goto (-38), 3) := by decide +kernel
theorem dX6_inHours_97 : decode cX6_inHours 97 = .ok (.iload_n 3, 1) := by decide +kernel
theorem dX6_inHours_98 : decode cX6_inHours 98 = .ok (.ifCond .ne 11, 3) := by decide +kernel
theorem dX6_inHours_101 : decode cX6_inHours 101 = .ok (.aload_n 0, 1) := by decide +kernel
theorem dX6_inHours_102 : decode cX6_inHours 102 = .ok (.getfield 33, 3) := by decide +kernel
theorem dX6_inHours_105 : decode cX6_inHours 105 = .ok (.invokevirtual 124, 3) := by decide +kernel
theorem dX6_inHours_108 : decode cX6_inHours 108 = .ok (.ireturn, 1) := by decide +kernel
theorem dX6_inHours_109 : decode cX6_inHours 109 = .ok (.iload_n 3, 1) := by decide +kernel
theorem dX6_inHours_110 : decode cX6_inHours 110 = .ok (.iconst 1, 1) := by decide +kernel
theorem dX6_inHours_111 : decode cX6_inHours 111 = .ok (.if_icmp .ne 8, 3) := by decide +kernel
theorem dX6_inHours_114 : decode cX6_inHours 114 = .ok (.iload 4, 2) := by decide +kernel
theorem dX6_inHours_116 : decode cX6_inHours 116 = .ok (.goto 14, 3) := by decide +kernel
theorem dX6_inHours_119 : decode cX6_inHours 119 = .ok (.aload_n 0, 1) := by decide +kernel
theorem dX6_inHours_120 : decode cX6_inHours 120 = .ok (.getfield 33, 3) := by decide +kernel
theorem dX6_inHours_123 : decode cX6_inHours 123 = .ok (.aload_n 0, 1) := by decide +kernel
theorem dX6_inHours_124 : decode cX6_inHours 124 = .ok (.getfield 19, 3) := by decide +kernel
theorem dX6_inHours_127 : decode cX6_inHours 127 = .ok (.invokevirtual 168, 3) := by decide +kernel
theorem dX6_inHours_130 : decode cX6_inHours 130 = .ok (.ireturn, 1) := by decide +kernel
theorem dX6_round_0 : decode cX6_round 0 = .ok (.iload_n 1, 1) := by decide +kernel
theorem dX6_round_1 : decode cX6_round 1 = .ok (.iconst 0, 1) := by decide +kernel
theorem dX6_round_2 : decode cX6_round 2 = .ok (.iconst 1, 1) := by decide +kernel
theorem dX6_round_3 : decode cX6_round 3 = .ok (.invokestatic 65, 3) := by decide +kernel
theorem dX6_round_6 : decode cX6_round 6 = .ok (.ifCond .ne 5, 3) := by decide +kernel
theorem dX6_round_9 : decode cX6_round 9 = .ok (.iconst (-1), 1) := by decide +kernel
theorem dX6_round_10 : decode cX6_round 10 = .ok (.ireturn, 1) := by decide +kernel
theorem dX6_round_11 : decode cX6_round 11 = .ok (.bipush (-9), 2) := by decide +kernel
theorem dX6_round_13 : decode cX6_round 13 = .ok (.istore_n 2, 1) := by decide +kernel
theorem dX6_round_14 : decode cX6_round 14 = .ok (.bipush (-9), 2) := by decide +kernel
theorem dX6_round_16 : decode cX6_round 16 = .ok (.istore_n 3, 1) := by decide +kernel
theorem dX6_round_17 : decode cX6_round 17 = .ok (.iconst 1, 1) := by decide +kernel
theorem dX6_round_18 : decode cX6_round 18 = .ok (.istore 4, 2) := by decide +kernel
theorem dX6_round_20 : decode cX6_round 20 = .ok (.iload 4, 2) := by decide +kernel
theorem dX6_round_22 : decode cX6_round 22 = .ok (.ifCond .lt 90, 3) := by decide +kernel
theorem dX6_round_25 : decode cX6_round 25 = .ok (.iconst 0, 1) := by decide +kernel
theorem dX6_round_26 : decode cX6_round 26 = .ok (.istore 5, 2) := by decide +kernel
theorem dX6_round_28 : decode cX6_round 28 = .ok (.iload 5, 2) := by decide +kernel
theorem dX6_round_30 : decode cX6_round 30 = .ok (.aload_n 0, 1) := by decide +kernel
theorem dX6_round_31 : decode cX6_round 31 = .ok (.getfield 19, 3) := by decide +kernel
theorem dX6_round_34 : decode cX6_round 34 = .ok (.getfield 171, 3) := by decide +kernel
theorem dX6_round_37 : decode cX6_round 37 = .ok (.if_icmp .ge 69, 3) := by decide +kernel
theorem dX6_round_40 : decode cX6_round 40 = .ok (.aload_n 0, 1) := by decide +kernel
theorem dX6_round_41 : decode cX6_round 41 = .ok (.getfield 33, 3) := by decide +kernel
theorem dX6_round_44 : decode cX6_round 44 = .ok (.aload_n 0, 1) := by decide +kernel
theorem dX6_round_45 : decode cX6_round 45 = .ok (.getfield 29, 3) := by decide +kernel
theorem dX6_round_48 : decode cX6_round 48 = .ok (.invokevirtual 156, 3) := by decide +kernel
theorem dX6_round_51 : decode cX6_round 51 = .ok (.aload_n 0, 1) := by decide +kernel
theorem dX6_round_52 : decode cX6_round 52 = .ok (.getfield 33, 3) := by decide +kernel
theorem dX6_round_55 : decode cX6_round 55 = .ok (.aload_n 0, 1) := by decide +kernel
theorem dX6_round_56 : decode cX6_round 56 = .ok (.getfield 19, 3) := by decide +kernel
theorem dX6_round_59 : decode cX6_round 59 = .ok (.iload 5, 2) := by decide +kernel
theorem dX6_round_61 : decode cX6_round 61 = .ok (.iload 4, 2) := by decide +kernel
theorem dX6_round_63 : decode cX6_round 63 = .ok (.invokevirtual 149, 3) := by decide +kernel
theorem dX6_round_66 : decode cX6_round 66 = .ok (.pop, 1) := by decide +kernel
theorem dX6_round_67 : decode cX6_round 67 = .ok (.aload_n 0, 1) := by decide +kernel
theorem dX6_round_68 : decode cX6_round 68 = .ok (.getfield 33, 3) := by decide +kernel
theorem dX6_round_71 : decode cX6_round 71 = .ok (.invokevirtual 174, 3) := by decide +kernel
theorem dX6_round_74 : decode cX6_round 74 = .ok (.istore 6, 2) := by decide +kernel
theorem dX6_round_76 : decode cX6_round 76 = .ok (.iload_n 2, 1) := by decide +kernel
theorem dX6_round_77 : decode cX6_round 77 = .ok (.bipush (-9), 2) := by decide +kernel
theorem dX6_round_79 : decode cX6_round 79 = .ok (.if_icmp .eq 9, 3) := by decide +kernel
theorem dX6_round_82 : decode cX6_round 82 = .ok (.iload 6, 2) := by decide +kernel
theorem dX6_round_84 : decode cX6_round 84 = .ok (.iload_n 3, 1) := by decide +kernel
theorem dX6_round_85 : decode cX6_round 85 = .ok (.if_icmp .ge 15, 3) := by decide +kernel
theorem dX6_round_88 : decode cX6_round 88 = .ok (.bipush 10, 2) := by decide +kernel
theorem dX6_round_90 : decode cX6_round 90 = .ok (.iload 4, 2) := by decide +kernel
theorem dX6_round_92 : decode cX6_round 92 = .ok (.imul, 1) := by decide +kernel
theorem dX6_round_93 : decode cX6_round 93 = .ok (.iload 5, 2) := by decide +kernel
theorem dX6_round_95 : decode cX6_round 95 = .ok (.iadd, 1) := by decide +kernel
theorem dX6_round_96 : decode cX6_round 96 = .ok (.istore_n 2, 1) := by decide +kernel
theorem dX6_round_97 : decode cX6_round 97 = .ok (.iload 6, 2) := by decide +kernel
theorem dX6_round_99 : decode cX6_round 99 = .ok (.istore_n 3, 1) := by decide +kernel
theorem dX6_round_100 : decode cX6_round 100 = .ok (.iinc 5 1, 3) := by decide +kernel
theorem dX6_round_103 : decode cX6_round 103 = .ok (.goto (-75), 3) := by decide +kernel
theorem dX6_round_106 : decode cX6_round 106 = .ok (.iinc 4 (-1), 3) := by decide +kernel
theorem dX6_round_109 : decode cX6_round 109 = .ok (.goto (-89), 3) := by decide +kernel
theorem dX6_round_112 : decode cX6_round 112 = .ok (.iload_n 1, 1) := by decide +kernel
theorem dX6_round_113 : decode cX6_round 113 = .ok (.ifCond .ne 7, 3) := by decide +kernel
theorem dX6_round_116 : decode cX6_round 116 = .ok (.iload_n 2, 1) := by decide +kernel
theorem dX6_round_117 : decode cX6_round 117 = .ok (.goto 4, 3) := by decide +kernel
theorem dX6_round_120 : decode cX6_round 120 = .ok (.iload_n 3, 1) := by decide +kernel
theorem dX6_round_121 : decode cX6_round 121 = .ok (.ireturn, 1) := by decide +kernel
theorem dX6_rota_0 : decode cX6_rota 0 = .ok (.iload_n 1, 1) := by decide +kernel
theorem dX6_rota_1 : decode cX6_rota 1 = .ok (.iconst (-1), 1) := by decide +kernel
theorem dX6_rota_2 : decode cX6_rota 2 = .ok (.if_icmp .eq 13, 3) := by decide +kernel
theorem dX6_rota_5 : decode cX6_rota 5 = .ok (.aload_n 0, 1) := by decide +kernel
theorem dX6_rota_6 : decode cX6_rota 6 = .ok (.iload_n 1, 1) := by decide +kernel
theorem dX6_rota_7 : decode cX6_rota 7 = .ok (.invokevirtual 88, 3) := by decide +kernel
theorem dX6_rota_10 : decode cX6_rota 10 = .ok (.ifCond .ne 5, 3) := by decide +kernel
theorem dX6_rota_13 : decode cX6_rota 13 = .ok (.iconst (-1), 1) := by decide +kernel
theorem dX6_rota_14 : decode cX6_rota 14 = .ok (.ireturn, 1) := by decide +kernel
theorem dX6_rota_15 : decode cX6_rota 15 = .ok (.aload_n 0, 1) := by decide +kernel
theorem dX6_rota_16 : decode cX6_rota 16 = .ok (.getfield 19, 3) := by decide +kernel
theorem dX6_rota_19 : decode cX6_rota 19 = .ok (.getfield 171, 3) := by decide +kernel
theorem dX6_rota_22 : decode cX6_rota 22 = .ok (.ifCond .eq 20, 3) := by decide +kernel
theorem dX6_rota_25 : decode cX6_rota 25 = .ok (.aload_n 0, 1) := by decide +kernel
theorem dX6_rota_26 : decode cX6_rota 26 = .ok (.getfield 19, 3) := by decide +kernel
theorem dX6_rota_29 : decode cX6_rota 29 = .ok (.getfield 177, 3) := by decide +kernel
theorem dX6_rota_32 : decode cX6_rota 32 = .ok (.aload_n 0, 1) := by decide +kernel
theorem dX6_rota_33 : decode cX6_rota 33 = .ok (.getfield 19, 3) := by decide +kernel
theorem dX6_rota_36 : decode cX6_rota 36 = .ok (.getfield 171, 3) := by decide +kernel
theorem dX6_rota_39 : decode cX6_rota 39 = .ok (.if_icmp .ge 6, 3) := by decide +kernel
theorem dX6_rota_42 : decode cX6_rota 42 = .ok (.bipush (-9), 2) := by decide +kernel
theorem dX6_rota_44 : decode cX6_rota 44 = .ok (.ireturn, 1) := by decide +kernel
theorem dX6_rota_45 : decode cX6_rota 45 = .ok (.aload_n 0, 1) := by decide +kernel
theorem dX6_rota_46 : decode cX6_rota 46 = .ok (.getfield 61, 3) := by decide +kernel
theorem dX6_rota_49 : decode cX6_rota 49 = .ok (.aload_n 0, 1) := by decide +kernel
theorem dX6_rota_50 : decode cX6_rota 50 = .ok (.getfield 19, 3) := by decide +kernel
theorem dX6_rota_53 : decode cX6_rota 53 = .ok (.aload_n 0, 1) := by decide +kernel
theorem dX6_rota_54 : decode cX6_rota 54 = .ok (.getfield 29, 3) := by decide +kernel
theorem dX6_rota_57 : decode cX6_rota 57 = .ok (.invokevirtual 180, 3) := by decide +kernel
theorem dX6_rota_60 : decode cX6_rota 60 = .ok (.iload_n 1, 1) := by decide +kernel
theorem dX6_rota_61 : decode cX6_rota 61 = .ok (.iconst (-1), 1) := by decide +kernel
theorem dX6_rota_62 : decode cX6_rota 62 = .ok (.if_icmp .ne 13, 3) := by decide +kernel
theorem dX6_rota_65 : decode cX6_rota 65 = .ok (.aload_n 0, 1) := by decide +kernel
theorem dX6_rota_66 : decode cX6_rota 66 = .ok (.getfield 61, 3) := by decide +kernel
theorem dX6_rota_69 : decode cX6_rota 69 = .ok (.getfield 184, 3) := by decide +kernel
theorem dX6_rota_72 : decode cX6_rota 72 = .ok (.goto 12, 3) := by decide +kernel
theorem dX6_rota_75 : decode cX6_rota 75 = .ok (.aload_n 0, 1) := by decide +kernel
theorem dX6_rota_76 : decode cX6_rota 76 = .ok (.getfield 61, 3) := by decide +kernel
theorem dX6_rota_79 : decode cX6_rota 79 = .ok (.getfield 187, 3) := by decide +kernel
theorem dX6_rota_82 : decode cX6_rota 82 = .ok (.iload_n 1, 1) := by decide +kernel
theorem dX6_rota_83 : decode cX6_rota 83 = .ok (.iaload, 1) := by decide +kernel
theorem dX6_rota_84 : decode cX6_rota 84 = .ok (.ireturn, 1) := by decide +kernel
theorem dX6_leave_0 : decode cX6_leave 0 = .ok (.iconst 0, 1) := by decide +kernel
theorem dX6_leave_1 : decode cX6_leave 1 = .ok (.istore_n 1, 1) := by decide +kernel
theorem dX6_leave_2 : decode cX6_leave 2 = .ok (.iconst 1, 1) := by decide +kernel
theorem dX6_leave_3 : decode cX6_leave 3 = .ok (.istore_n 2, 1) := by decide +kernel
theorem dX6_leave_4 : decode cX6_leave 4 = .ok (.iload_n 2, 1) := by decide +kernel
theorem dX6_leave_5 : decode cX6_leave 5 = .ok (.aload_n 0, 1) := by decide +kernel
theorem dX6_leave_6 : decode cX6_leave 6 = .ok (.getfield 19, 3) := by decide +kernel
theorem dX6_leave_9 : decode cX6_leave 9 = .ok (.invokevirtual 190, 3) := by decide +kernel
theorem dX6_leave_12 : decode cX6_leave 12 = .ok (.if_icmp .gt 30, 3) := by decide +kernel
theorem dX6_leave_15 : decode cX6_leave 15 = .ok (.iload_n 2, 1) := by decide +kernel
theorem dX6_leave_16 : decode cX6_leave 16 = .ok (.invokestatic 141, 3) := by decide +kernel
theorem dX6_leave_19 : decode cX6_leave 19 = .ok (.iload_n 1, 1) := by decide +kernel
theorem dX6_leave_20 : decode cX6_leave 20 = .ok (.invokestatic 141, 3) := by decide +kernel
theorem dX6_leave_23 : decode cX6_leave 23 = .ok (.if_icmp .le 13, 3) := by decide +kernel
theorem dX6_leave_26 : decode cX6_leave 26 = .ok (.aload_n 0, 1) := by decide +kernel
theorem dX6_leave_27 : decode cX6_leave 27 = .ok (.iload_n 2, 1) := by decide +kernel
theorem dX6_leave_28 : decode cX6_leave 28 = .ok (.invokevirtual 193, 3) := by decide +kernel
theorem dX6_leave_31 : decode cX6_leave 31 = .ok (.ifCond .eq 5, 3) := by decide +kernel
theorem dX6_leave_34 : decode cX6_leave 34 = .ok (.iload_n 2, 1) := by decide +kernel
theorem dX6_leave_35 : decode cX6_leave 35 = .ok (.istore_n 1, 1) := by decide +kernel
theorem dX6_leave_36 : decode cX6_leave 36 = .ok (.iinc 2 1, 3) := by decide +kernel
theorem dX6_leave_39 : decode cX6_leave 39 = .ok (.goto (-35), 3) := by decide +kernel
theorem dX6_leave_42 : decode cX6_leave 42 = .ok (.iload_n 1, 1) := by decide +kernel
theorem dX6_leave_43 : decode cX6_leave 43 = .ok (.ireturn, 1) := by decide +kernel
theorem dX6_two_0 : decode cX6_two 0 = .ok (.bipush (-9), 2) := by decide +kernel
theorem dX6_two_2 : decode cX6_two 2 = .ok (.istore_n 1, 1) := by decide +kernel
theorem dX6_two_3 : decode cX6_two 3 = .ok (.iconst (-1), 1) := by decide +kernel
theorem dX6_two_4 : decode cX6_two 4 = .ok (.istore_n 2, 1) := by decide +kernel
theorem dX6_two_5 : decode cX6_two 5 = .ok (.iconst 0, 1) := by decide +kernel
theorem dX6_two_6 : decode cX6_two 6 = .ok (.istore_n 3, 1) := by decide +kernel
theorem dX6_two_7 : decode cX6_two 7 = .ok (.iload_n 3, 1) := by decide +kernel
theorem dX6_two_8 : decode cX6_two 8 = .ok (.aload_n 0, 1) := by decide +kernel
theorem dX6_two_9 : decode cX6_two 9 = .ok (.getfield 19, 3) := by decide +kernel
theorem dX6_two_12 : decode cX6_two 12 = .ok (.getfield 171, 3) := by decide +kernel
theorem dX6_two_15 : decode cX6_two 15 = .ok (.if_icmp .ge 30, 3) := by decide +kernel
theorem dX6_two_18 : decode cX6_two 18 = .ok (.aload_n 0, 1) := by decide +kernel
theorem dX6_two_19 : decode cX6_two 19 = .ok (.iload_n 3, 1) := by decide +kernel
theorem dX6_two_20 : decode cX6_two 20 = .ok (.invokevirtual 196, 3) := by decide +kernel
theorem dX6_two_23 : decode cX6_two 23 = .ok (.invokestatic 141, 3) := by decide +kernel
theorem dX6_two_26 : decode cX6_two 26 = .ok (.istore 4, 2) := by decide +kernel
theorem dX6_two_28 : decode cX6_two 28 = .ok (.iload 4, 2) := by decide +kernel
theorem dX6_two_30 : decode cX6_two 30 = .ok (.iload_n 2, 1) := by decide +kernel
theorem dX6_two_31 : decode cX6_two 31 = .ok (.if_icmp .le 8, 3) := by decide +kernel
theorem dX6_two_34 : decode cX6_two 34 = .ok (.iload 4, 2) := by decide +kernel
theorem dX6_two_36 : decode cX6_two 36 = .ok (.istore_n 2, 1) := by decide +kernel
theorem dX6_two_37 : decode cX6_two 37 = .ok (.iload_n 3, 1) := by decide +kernel
theorem dX6_two_38 : decode cX6_two 38 = .ok (.istore_n 1, 1) := by decide +kernel
theorem dX6_two_39 : decode cX6_two 39 = .ok (.iinc 3 1, 3) := by decide +kernel
theorem dX6_two_42 : decode cX6_two 42 = .ok (.goto (-35), 3) := by decide +kernel
theorem dX6_two_45 : decode cX6_two 45 = .ok (.iload_n 1, 1) := by decide +kernel
theorem dX6_two_46 : decode cX6_two 46 = .ok (.ireturn, 1) := by decide +kernel
theorem dX6_unseen_0 : decode cX6_unseen 0 = .ok (.aload_n 0, 1) := by decide +kernel
theorem dX6_unseen_1 : decode cX6_unseen 1 = .ok (.iload_n 1, 1) := by decide +kernel
theorem dX6_unseen_2 : decode cX6_unseen 2 = .ok (.invokevirtual 88, 3) := by decide +kernel
theorem dX6_unseen_5 : decode cX6_unseen 5 = .ok (.ifCond .eq 13, 3) := by decide +kernel
theorem dX6_unseen_8 : decode cX6_unseen 8 = .ok (.iload_n 2, 1) := by decide +kernel
theorem dX6_unseen_9 : decode cX6_unseen 9 = .ok (.iconst 1, 1) := by decide +kernel
theorem dX6_unseen_10 : decode cX6_unseen 10 = .ok (.bipush 12, 2) := by decide +kernel
theorem dX6_unseen_12 : decode cX6_unseen 12 = .ok (.invokestatic 65, 3) := by decide +kernel
theorem dX6_unseen_15 : decode cX6_unseen 15 = .ok (.ifCond .ne 5, 3) := by decide +kernel
theorem dX6_unseen_18 : decode cX6_unseen 18 = .ok (.iconst (-1), 1) := by decide +kernel
theorem dX6_unseen_19 : decode cX6_unseen 19 = .ok (.ireturn, 1) := by decide +kernel
theorem dX6_unseen_20 : decode cX6_unseen 20 = .ok (.aload_n 0, 1) := by decide +kernel
theorem dX6_unseen_21 : decode cX6_unseen 21 = .ok (.getfield 33, 3) := by decide +kernel
theorem dX6_unseen_24 : decode cX6_unseen 24 = .ok (.aload_n 0, 1) := by decide +kernel
theorem dX6_unseen_25 : decode cX6_unseen 25 = .ok (.getfield 29, 3) := by decide +kernel
theorem dX6_unseen_28 : decode cX6_unseen 28 = .ok (.invokevirtual 156, 3) := by decide +kernel
theorem dX6_unseen_31 : decode cX6_unseen 31 = .ok (.iconst 0, 1) := by decide +kernel
theorem dX6_unseen_32 : decode cX6_unseen 32 = .ok (.istore_n 3, 1) := by decide +kernel
theorem dX6_unseen_33 : decode cX6_unseen 33 = .ok (.iload_n 3, 1) := by decide +kernel
theorem dX6_unseen_34 : decode cX6_unseen 34 = .ok (.iload_n 2, 1) := by decide +kernel
theorem dX6_unseen_35 : decode cX6_unseen 35 = .ok (.if_icmp .ge 42, 3) := by decide +kernel
theorem dX6_unseen_38 : decode cX6_unseen 38 = .ok (.aload_n 0, 1) := by decide +kernel
theorem dX6_unseen_39 : decode cX6_unseen 39 = .ok (.getfield 33, 3) := by decide +kernel
theorem dX6_unseen_42 : decode cX6_unseen 42 = .ok (.aload_n 0, 1) := by decide +kernel
theorem dX6_unseen_43 : decode cX6_unseen 43 = .ok (.getfield 19, 3) := by decide +kernel
theorem dX6_unseen_46 : decode cX6_unseen 46 = .ok (.iconst 0, 1) := by decide +kernel
theorem dX6_unseen_47 : decode cX6_unseen 47 = .ok (.invokevirtual 158, 3) := by decide +kernel
theorem dX6_unseen_50 : decode cX6_unseen 50 = .ok (.aload_n 0, 1) := by decide +kernel
theorem dX6_unseen_51 : decode cX6_unseen 51 = .ok (.getfield 33, 3) := by decide +kernel
theorem dX6_unseen_54 : decode cX6_unseen 54 = .ok (.aload_n 0, 1) := by decide +kernel
theorem dX6_unseen_55 : decode cX6_unseen 55 = .ok (.getfield 19, 3) := by decide +kernel
theorem dX6_unseen_58 : decode cX6_unseen 58 = .ok (.invokevirtual 127, 3) := by decide +kernel
theorem dX6_unseen_61 : decode cX6_unseen 61 = .ok (.iload_n 1, 1) := by decide +kernel
theorem dX6_unseen_62 : decode cX6_unseen 62 = .ok (.ishr, 1) := by decide +kernel
theorem dX6_unseen_63 : decode cX6_unseen 63 = .ok (.iconst 1, 1) := by decide +kernel
theorem dX6_unseen_64 : decode cX6_unseen 64 = .ok (.iand, 1) := by decide +kernel
theorem dX6_unseen_65 : decode cX6_unseen 65 = .ok (.iconst 1, 1) := by decide +kernel
theorem dX6_unseen_66 : decode cX6_unseen 66 = .ok (.if_icmp .ne 5, 3) := by decide +kernel
theorem dX6_unseen_69 : decode cX6_unseen 69 = .ok (.iconst 0, 1) := by decide +kernel
theorem dX6_unseen_70 : decode cX6_unseen 70 = .ok (.ireturn, 1) := by decide +kernel
theorem dX6_unseen_71 : decode cX6_unseen 71 = .ok (.iinc 3 1, 3) := by decide +kernel
theorem dX6_unseen_74 : decode cX6_unseen 74 = .ok (.goto (-41), 3) := by decide +kernel
theorem dX6_unseen_77 : decode cX6_unseen 77 = .ok (.iconst 1, 1) := by decide +kernel
theorem dX6_unseen_78 : decode cX6_unseen 78 = .ok (.ireturn, 1) := by decide +kernel
theorem dX6_odds_0 : decode cX6_odds 0 = .ok (.iload_n 1, 1) := by decide +kernel
theorem dX6_odds_1 : decode cX6_odds 1 = .ok (.iconst 0, 1) := by decide +kernel
theorem dX6_odds_2 : decode cX6_odds 2 = .ok (.bipush 10, 2) := by decide +kernel
theorem dX6_odds_4 : decode cX6_odds 4 = .ok (.invokestatic 65, 3) := by decide +kernel
theorem dX6_odds_7 : decode cX6_odds 7 = .ok (.ifCond .eq 12, 3) := by decide +kernel
theorem dX6_odds_10 : decode cX6_odds 10 = .ok (.iload_n 2, 1) := by decide +kernel
theorem dX6_odds_11 : decode cX6_odds 11 = .ok (.iconst 0, 1) := by decide +kernel
theorem dX6_odds_12 : decode cX6_odds 12 = .ok (.iconst 1, 1) := by decide +kernel
theorem dX6_odds_13 : decode cX6_odds 13 = .ok (.invokestatic 65, 3) := by decide +kernel
theorem dX6_odds_16 : decode cX6_odds 16 = .ok (.ifCond .ne 5, 3) := by decide +kernel
theorem dX6_odds_19 : decode cX6_odds 19 = .ok (.iconst (-1), 1) := by decide +kernel
theorem dX6_odds_20 : decode cX6_odds 20 = .ok (.ireturn, 1) := by decide +kernel
theorem dX6_odds_21 : decode cX6_odds 21 = .ok (.aload_n 0, 1) := by decide +kernel
theorem dX6_odds_22 : decode cX6_odds 22 = .ok (.getfield 29, 3) := by decide +kernel
theorem dX6_odds_25 : decode cX6_odds 25 = .ok (.invokevirtual 124, 3) := by decide +kernel
theorem dX6_odds_28 : decode cX6_odds 28 = .ok (.istore_n 3, 1) := by decide +kernel
theorem dX6_odds_29 : decode cX6_odds 29 = .ok (.aload_n 0, 1) := by decide +kernel
theorem dX6_odds_30 : decode cX6_odds 30 = .ok (.getfield 29, 3) := by decide +kernel
theorem dX6_odds_33 : decode cX6_odds 33 = .ok (.invokevirtual 120, 3) := by decide +kernel
theorem dX6_odds_36 : decode cX6_odds 36 = .ok (.iload_n 3, 1) := by decide +kernel
theorem dX6_odds_37 : decode cX6_odds 37 = .ok (.iconst (-1), 1) := by decide +kernel
theorem dX6_odds_38 : decode cX6_odds 38 = .ok (.ixor, 1) := by decide +kernel
theorem dX6_odds_39 : decode cX6_odds 39 = .ok (.iand, 1) := by decide +kernel
theorem dX6_odds_40 : decode cX6_odds 40 = .ok (.istore 4, 2) := by decide +kernel
theorem dX6_odds_42 : decode cX6_odds 42 = .ok (.iconst 0, 1) := by decide +kernel
theorem dX6_odds_43 : decode cX6_odds 43 = .ok (.istore 5, 2) := by decide +kernel
theorem dX6_odds_45 : decode cX6_odds 45 = .ok (.iconst 0, 1) := by decide +kernel
theorem dX6_odds_46 : decode cX6_odds 46 = .ok (.istore 6, 2) := by decide +kernel
theorem dX6_odds_48 : decode cX6_odds 48 = .ok (.iload 6, 2) := by decide +kernel
theorem dX6_odds_50 : decode cX6_odds 50 = .ok (.aload_n 0, 1) := by decide +kernel
theorem dX6_odds_51 : decode cX6_odds 51 = .ok (.getfield 19, 3) := by decide +kernel
theorem dX6_odds_54 : decode cX6_odds 54 = .ok (.invokevirtual 190, 3) := by decide +kernel
theorem dX6_odds_57 : decode cX6_odds 57 = .ok (.if_icmp .gt 64, 3) := by decide +kernel
theorem dX6_odds_60 : decode cX6_odds 60 = .ok (.iload 6, 2) := by decide +kernel
theorem dX6_odds_62 : decode cX6_odds 62 = .ok (.iload_n 3, 1) := by decide +kernel
theorem dX6_odds_63 : decode cX6_odds 63 = .ok (.iconst (-1), 1) := by decide +kernel
theorem dX6_odds_64 : decode cX6_odds 64 = .ok (.ixor, 1) := by decide +kernel
theorem dX6_odds_65 : decode cX6_odds 65 = .ok (.iand, 1) := by decide +kernel
theorem dX6_odds_66 : decode cX6_odds 66 = .ok (.ifCond .ne 7, 3) := by decide +kernel
theorem dX6_odds_69 : decode cX6_odds 69 = .ok (.iconst 1, 1) := by decide +kernel
theorem dX6_odds_70 : decode cX6_odds 70 = .ok (.goto 4, 3) := by decide +kernel
theorem dX6_odds_73 : decode cX6_odds 73 = .ok (.iconst 0, 1) := by decide +kernel
theorem dX6_odds_74 : decode cX6_odds 74 = .ok (.istore 7, 2) := by decide +kernel
theorem dX6_odds_76 : decode cX6_odds 76 = .ok (.iload 7, 2) := by decide +kernel
theorem dX6_odds_78 : decode cX6_odds 78 = .ok (.ifCond .eq 37, 3) := by decide +kernel
theorem dX6_odds_81 : decode cX6_odds 81 = .ok (.aload_n 0, 1) := by decide +kernel
theorem dX6_odds_82 : decode cX6_odds 82 = .ok (.getfield 19, 3) := by decide +kernel
theorem dX6_odds_85 : decode cX6_odds 85 = .ok (.iload 4, 2) := by decide +kernel
theorem dX6_odds_87 : decode cX6_odds 87 = .ok (.iload 6, 2) := by decide +kernel
theorem dX6_odds_89 : decode cX6_odds 89 = .ok (.ior, 1) := by decide +kernel
theorem dX6_odds_90 : decode cX6_odds 90 = .ok (.invokevirtual 199, 3) := by decide +kernel
theorem dX6_odds_93 : decode cX6_odds 93 = .ok (.aload_n 0, 1) := by decide +kernel
theorem dX6_odds_94 : decode cX6_odds 94 = .ok (.getfield 19, 3) := by decide +kernel
theorem dX6_odds_97 : decode cX6_odds 97 = .ok (.invokevirtual 190, 3) := by decide +kernel
theorem dX6_odds_100 : decode cX6_odds 100 = .ok (.if_icmp .ne 15, 3) := by decide +kernel
theorem dX6_odds_103 : decode cX6_odds 103 = .ok (.iload 5, 2) := by decide +kernel
theorem dX6_odds_105 : decode cX6_odds 105 = .ok (.iload 6, 2) := by decide +kernel
theorem dX6_odds_107 : decode cX6_odds 107 = .ok (.iload_n 3, 1) := by decide +kernel
theorem dX6_odds_108 : decode cX6_odds 108 = .ok (.iload_n 1, 1) := by decide +kernel
theorem dX6_odds_109 : decode cX6_odds 109 = .ok (.invokestatic 202, 3) := by decide +kernel
theorem dX6_odds_112 : decode cX6_odds 112 = .ok (.iadd, 1) := by decide +kernel
theorem dX6_odds_113 : decode cX6_odds 113 = .ok (.istore 5, 2) := by decide +kernel
theorem dX6_odds_115 : decode cX6_odds 115 = .ok (.iinc 6 1, 3) := by decide +kernel
theorem dX6_odds_118 : decode cX6_odds 118 = .ok (.goto (-70), 3) := by decide +kernel
theorem dX6_odds_121 : decode cX6_odds 121 = .ok (.iload 5, 2) := by decide +kernel
theorem dX6_odds_123 : decode cX6_odds 123 = .ok (.bipush 10, 2) := by decide +kernel
theorem dX6_odds_125 : decode cX6_odds 125 = .ok (.iload_n 3, 1) := by decide +kernel
theorem dX6_odds_126 : decode cX6_odds 126 = .ok (.invokestatic 141, 3) := by decide +kernel
theorem dX6_odds_129 : decode cX6_odds 129 = .ok (.invokestatic 206, 3) := by decide +kernel
theorem dX6_odds_132 : decode cX6_odds 132 = .ok (.iload_n 2, 1) := by decide +kernel
theorem dX6_odds_133 : decode cX6_odds 133 = .ok (.invokestatic 209, 3) := by decide +kernel
theorem dX6_odds_136 : decode cX6_odds 136 = .ok (.ireturn, 1) := by decide +kernel
theorem dX6_creep_0 : decode cX6_creep 0 = .ok (.iload_n 1, 1) := by decide +kernel
theorem dX6_creep_1 : decode cX6_creep 1 = .ok (.iconst 1, 1) := by decide +kernel
theorem dX6_creep_2 : decode cX6_creep 2 = .ok (.bipush 24, 2) := by decide +kernel
theorem dX6_creep_4 : decode cX6_creep 4 = .ok (.invokestatic 65, 3) := by decide +kernel
theorem dX6_creep_7 : decode cX6_creep 7 = .ok (.ifCond .eq 12, 3) := by decide +kernel
theorem dX6_creep_10 : decode cX6_creep 10 = .ok (.iload_n 2, 1) := by decide +kernel
theorem dX6_creep_11 : decode cX6_creep 11 = .ok (.iconst 0, 1) := by decide +kernel
theorem dX6_creep_12 : decode cX6_creep 12 = .ok (.iconst 1, 1) := by decide +kernel
theorem dX6_creep_13 : decode cX6_creep 13 = .ok (.invokestatic 65, 3) := by decide +kernel
theorem dX6_creep_16 : decode cX6_creep 16 = .ok (.ifCond .ne 5, 3) := by decide +kernel
theorem dX6_creep_19 : decode cX6_creep 19 = .ok (.iconst (-1), 1) := by decide +kernel
theorem dX6_creep_20 : decode cX6_creep 20 = .ok (.ireturn, 1) := by decide +kernel
theorem dX6_creep_21 : decode cX6_creep 21 = .ok (.aload_n 0, 1) := by decide +kernel
theorem dX6_creep_22 : decode cX6_creep 22 = .ok (.getfield 33, 3) := by decide +kernel
theorem dX6_creep_25 : decode cX6_creep 25 = .ok (.aload_n 0, 1) := by decide +kernel
theorem dX6_creep_26 : decode cX6_creep 26 = .ok (.getfield 29, 3) := by decide +kernel
theorem dX6_creep_29 : decode cX6_creep 29 = .ok (.invokevirtual 156, 3) := by decide +kernel
theorem dX6_creep_32 : decode cX6_creep 32 = .ok (.iconst 0, 1) := by decide +kernel
theorem dX6_creep_33 : decode cX6_creep 33 = .ok (.istore_n 3, 1) := by decide +kernel
theorem dX6_creep_34 : decode cX6_creep 34 = .ok (.iload_n 3, 1) := by decide +kernel
theorem dX6_creep_35 : decode cX6_creep 35 = .ok (.iload_n 1, 1) := by decide +kernel
theorem dX6_creep_36 : decode cX6_creep 36 = .ok (.if_icmp .gt 49, 3) := by decide +kernel
theorem dX6_creep_39 : decode cX6_creep 39 = .ok (.aload_n 0, 1) := by decide +kernel
theorem dX6_creep_40 : decode cX6_creep 40 = .ok (.getfield 33, 3) := by decide +kernel
theorem dX6_creep_43 : decode cX6_creep 43 = .ok (.invokevirtual 124, 3) := by decide +kernel
theorem dX6_creep_46 : decode cX6_creep 46 = .ok (.istore 4, 2) := by decide +kernel
theorem dX6_creep_48 : decode cX6_creep 48 = .ok (.iload 4, 2) := by decide +kernel
theorem dX6_creep_50 : decode cX6_creep 50 = .ok (.ifCond .eq 17, 3) := by decide +kernel
theorem dX6_creep_53 : decode cX6_creep 53 = .ok (.iload_n 2, 1) := by decide +kernel
theorem dX6_creep_54 : decode cX6_creep 54 = .ok (.ifCond .ne 7, 3) := by decide +kernel
theorem dX6_creep_57 : decode cX6_creep 57 = .ok (.iload_n 3, 1) := by decide +kernel
theorem dX6_creep_58 : decode cX6_creep 58 = .ok (.goto 8, 3) := by decide +kernel
theorem dX6_creep_61 : decode cX6_creep 61 = .ok (.iload 4, 2) := by decide +kernel
theorem dX6_creep_63 : decode cX6_creep 63 = .ok (.invokestatic 212, 3) := by decide +kernel
theorem dX6_creep_66 : decode cX6_creep 66 = .ok (.ireturn, 1) := by decide +kernel
theorem dX6_creep_67 : decode cX6_creep 67 = .ok (.aload_n 0, 1) := by decide +kernel
theorem dX6_creep_68 : decode cX6_creep 68 = .ok (.getfield 33, 3) := by decide +kernel
theorem dX6_creep_71 : decode cX6_creep 71 = .ok (.aload_n 0, 1) := by decide +kernel
theorem dX6_creep_72 : decode cX6_creep 72 = .ok (.getfield 19, 3) := by decide +kernel
theorem dX6_creep_75 : decode cX6_creep 75 = .ok (.iconst 1, 1) := by decide +kernel
theorem dX6_creep_76 : decode cX6_creep 76 = .ok (.invokevirtual 158, 3) := by decide +kernel
theorem dX6_creep_79 : decode cX6_creep 79 = .ok (.iinc 3 1, 3) := by decide +kernel
theorem dX6_creep_82 : decode cX6_creep 82 = .ok (.goto (-48), 3) := by decide +kernel
theorem dX6_creep_85 : decode cX6_creep 85 = .ok (.bipush (-9), 2) := by decide +kernel
theorem dX6_creep_87 : decode cX6_creep 87 = .ok (.ireturn, 1) := by decide +kernel
theorem dX6_found_0 : decode cX6_found 0 = .ok (.aload_n 0, 1) := by decide +kernel
theorem dX6_found_1 : decode cX6_found 1 = .ok (.iload_n 1, 1) := by decide +kernel
theorem dX6_found_2 : decode cX6_found 2 = .ok (.invokevirtual 105, 3) := by decide +kernel
theorem dX6_found_5 : decode cX6_found 5 = .ok (.ifCond .eq 22, 3) := by decide +kernel
theorem dX6_found_8 : decode cX6_found 8 = .ok (.iload_n 2, 1) := by decide +kernel
theorem dX6_found_9 : decode cX6_found 9 = .ok (.iconst 0, 1) := by decide +kernel
theorem dX6_found_10 : decode cX6_found 10 = .ok (.bipush 24, 2) := by decide +kernel
theorem dX6_found_12 : decode cX6_found 12 = .ok (.invokestatic 65, 3) := by decide +kernel
theorem dX6_found_15 : decode cX6_found 15 = .ok (.ifCond .eq 12, 3) := by decide +kernel
theorem dX6_found_18 : decode cX6_found 18 = .ok (.iload_n 3, 1) := by decide +kernel
theorem dX6_found_19 : decode cX6_found 19 = .ok (.iconst 0, 1) := by decide +kernel
theorem dX6_found_20 : decode cX6_found 20 = .ok (.iconst 1, 1) := by decide +kernel
theorem dX6_found_21 : decode cX6_found 21 = .ok (.invokestatic 65, 3) := by decide +kernel
theorem dX6_found_24 : decode cX6_found 24 = .ok (.ifCond .ne 5, 3) := by decide +kernel
theorem dX6_found_27 : decode cX6_found 27 = .ok (.iconst (-1), 1) := by decide +kernel
theorem dX6_found_28 : decode cX6_found 28 = .ok (.ireturn, 1) := by decide +kernel
theorem dX6_found_29 : decode cX6_found 29 = .ok (.aload_n 0, 1) := by decide +kernel
theorem dX6_found_30 : decode cX6_found 30 = .ok (.getfield 54, 3) := by decide +kernel
theorem dX6_found_33 : decode cX6_found 33 = .ok (.iload_n 1, 1) := by decide +kernel
theorem dX6_found_34 : decode cX6_found 34 = .ok (.iload_n 2, 1) := by decide +kernel
theorem dX6_found_35 : decode cX6_found 35 = .ok (.iload_n 3, 1) := by decide +kernel
theorem dX6_found_36 : decode cX6_found 36 = .ok (.invokevirtual 215, 3) := by decide +kernel
theorem dX6_found_39 : decode cX6_found 39 = .ok (.ifCond .eq 13, 3) := by decide +kernel
theorem dX6_found_42 : decode cX6_found 42 = .ok (.aload_n 0, 1) := by decide +kernel
theorem dX6_found_43 : decode cX6_found 43 = .ok (.getfield 54, 3) := by decide +kernel
theorem dX6_found_46 : decode cX6_found 46 = .ok (.getfield 218, 3) := by decide +kernel
theorem dX6_found_49 : decode cX6_found 49 = .ok (.goto 5, 3) := by decide +kernel
theorem dX6_found_52 : decode cX6_found 52 = .ok (.bipush (-3), 2) := by decide +kernel
theorem dX6_found_54 : decode cX6_found 54 = .ok (.ireturn, 1) := by decide +kernel
theorem dX6_forget_0 : decode cX6_forget 0 = .ok (.aload_n 0, 1) := by decide +kernel
theorem dX6_forget_1 : decode cX6_forget 1 = .ok (.getfield 54, 3) := by decide +kernel
theorem dX6_forget_4 : decode cX6_forget 4 = .ok (.getfield 218, 3) := by decide +kernel
theorem dX6_forget_7 : decode cX6_forget 7 = .ok (.istore_n 1, 1) := by decide +kernel
theorem dX6_forget_8 : decode cX6_forget 8 = .ok (.aload_n 0, 1) := by decide +kernel
theorem dX6_forget_9 : decode cX6_forget 9 = .ok (.getfield 54, 3) := by decide +kernel
theorem dX6_forget_12 : decode cX6_forget 12 = .ok (.iconst 0, 1) := by decide +kernel
theorem dX6_forget_13 : decode cX6_forget 13 = .ok (.putfield 218, 3) := by decide +kernel
theorem dX6_forget_16 : decode cX6_forget 16 = .ok (.iload_n 1, 1) := by decide +kernel
theorem dX6_forget_17 : decode cX6_forget 17 = .ok (.ireturn, 1) := by decide +kernel
theorem dX6_fits_0 : decode cX6_fits 0 = .ok (.aload_n 0, 1) := by decide +kernel
theorem dX6_fits_1 : decode cX6_fits 1 = .ok (.iload_n 1, 1) := by decide +kernel
theorem dX6_fits_2 : decode cX6_fits 2 = .ok (.invokevirtual 105, 3) := by decide +kernel
theorem dX6_fits_5 : decode cX6_fits 5 = .ok (.ifCond .eq 12, 3) := by decide +kernel
theorem dX6_fits_8 : decode cX6_fits 8 = .ok (.iload_n 2, 1) := by decide +kernel
theorem dX6_fits_9 : decode cX6_fits 9 = .ok (.iconst 0, 1) := by decide +kernel
theorem dX6_fits_10 : decode cX6_fits 10 = .ok (.iconst 1, 1) := by decide +kernel
theorem dX6_fits_11 : decode cX6_fits 11 = .ok (.invokestatic 65, 3) := by decide +kernel
theorem dX6_fits_14 : decode cX6_fits 14 = .ok (.ifCond .ne 5, 3) := by decide +kernel
theorem dX6_fits_17 : decode cX6_fits 17 = .ok (.iconst (-1), 1) := by decide +kernel
theorem dX6_fits_18 : decode cX6_fits 18 = .ok (.ireturn, 1) := by decide +kernel
theorem dX6_fits_19 : decode cX6_fits 19 = .ok (.aload_n 0, 1) := by decide +kernel
theorem dX6_fits_20 : decode cX6_fits 20 = .ok (.getfield 29, 3) := by decide +kernel
theorem dX6_fits_23 : decode cX6_fits 23 = .ok (.iload_n 1, 1) := by decide +kernel
theorem dX6_fits_24 : decode cX6_fits 24 = .ok (.invokevirtual 108, 3) := by decide +kernel
theorem dX6_fits_27 : decode cX6_fits 27 = .ok (.istore_n 3, 1) := by decide +kernel
theorem dX6_fits_28 : decode cX6_fits 28 = .ok (.iconst 0, 1) := by decide +kernel
theorem dX6_fits_29 : decode cX6_fits 29 = .ok (.istore 4, 2) := by decide +kernel
theorem dX6_fits_31 : decode cX6_fits 31 = .ok (.bipush (-9), 2) := by decide +kernel
theorem dX6_fits_33 : decode cX6_fits 33 = .ok (.istore 5, 2) := by decide +kernel
theorem dX6_fits_35 : decode cX6_fits 35 = .ok (.iconst 0, 1) := by decide +kernel
theorem dX6_fits_36 : decode cX6_fits 36 = .ok (.istore 6, 2) := by decide +kernel
theorem dX6_fits_38 : decode cX6_fits 38 = .ok (.iload 6, 2) := by decide +kernel
theorem dX6_fits_40 : decode cX6_fits 40 = .ok (.bipush 60, 2) := by decide +kernel
theorem dX6_fits_42 : decode cX6_fits 42 = .ok (.if_icmp .gt 41, 3) := by decide +kernel
theorem dX6_fits_45 : decode cX6_fits 45 = .ok (.aload_n 0, 1) := by decide +kernel
theorem dX6_fits_46 : decode cX6_fits 46 = .ok (.getfield 54, 3) := by decide +kernel
theorem dX6_fits_49 : decode cX6_fits 49 = .ok (.iload_n 1, 1) := by decide +kernel
theorem dX6_fits_50 : decode cX6_fits 50 = .ok (.aload_n 0, 1) := by decide +kernel
theorem dX6_fits_51 : decode cX6_fits 51 = .ok (.iload_n 3, 1) := by decide +kernel
theorem dX6_fits_52 : decode cX6_fits 52 = .ok (.iload 6, 2) := by decide +kernel
theorem dX6_fits_54 : decode cX6_fits 54 = .ok (.invokevirtual 221, 3) := by decide +kernel
theorem dX6_fits_57 : decode cX6_fits 57 = .ok (.invokevirtual 224, 3) := by decide +kernel
theorem dX6_fits_60 : decode cX6_fits 60 = .ok (.ifCond .eq 17, 3) := by decide +kernel
theorem dX6_fits_63 : decode cX6_fits 63 = .ok (.iinc 4 1, 3) := by decide +kernel
theorem dX6_fits_66 : decode cX6_fits 66 = .ok (.iload 5, 2) := by decide +kernel
theorem dX6_fits_68 : decode cX6_fits 68 = .ok (.bipush (-9), 2) := by decide +kernel
theorem dX6_fits_70 : decode cX6_fits 70 = .ok (.if_icmp .ne 7, 3) := by decide +kernel
theorem dX6_fits_73 : decode cX6_fits 73 = .ok (.iload 6, 2) := by decide +kernel
theorem dX6_fits_75 : decode cX6_fits 75 = .ok (.istore 5, 2) := by decide +kernel
theorem dX6_fits_77 : decode cX6_fits 77 = .ok (.iinc 6 1, 3) := by decide +kernel
theorem dX6_fits_80 : decode cX6_fits 80 = .ok (.goto (-42), 3) := by decide +kernel
theorem dX6_fits_83 : decode cX6_fits 83 = .ok (.iload_n 2, 1) := by decide +kernel
theorem dX6_fits_84 : decode cX6_fits 84 = .ok (.ifCond .ne 8, 3) := by decide +kernel
theorem dX6_fits_87 : decode cX6_fits 87 = .ok (.iload 4, 2) := by decide +kernel
theorem dX6_fits_89 : decode cX6_fits 89 = .ok (.goto 5, 3) := by decide +kernel
theorem dX6_fits_92 : decode cX6_fits 92 = .ok (.iload 5, 2) := by decide +kernel
theorem dX6_fits_94 : decode cX6_fits 94 = .ok (.ireturn, 1) := by decide +kernel
theorem dX6_had_0 : decode cX6_had 0 = .ok (.aload_n 0, 1) := by decide +kernel
theorem dX6_had_1 : decode cX6_had 1 = .ok (.iload_n 1, 1) := by decide +kernel
theorem dX6_had_2 : decode cX6_had 2 = .ok (.invokevirtual 105, 3) := by decide +kernel
theorem dX6_had_5 : decode cX6_had 5 = .ok (.ifCond .eq 11, 3) := by decide +kernel
theorem dX6_had_8 : decode cX6_had 8 = .ok (.aload_n 0, 1) := by decide +kernel
theorem dX6_had_9 : decode cX6_had 9 = .ok (.iload_n 2, 1) := by decide +kernel
theorem dX6_had_10 : decode cX6_had 10 = .ok (.invokevirtual 88, 3) := by decide +kernel
theorem dX6_had_13 : decode cX6_had 13 = .ok (.ifCond .ne 5, 3) := by decide +kernel
theorem dX6_had_16 : decode cX6_had 16 = .ok (.iconst (-1), 1) := by decide +kernel
theorem dX6_had_17 : decode cX6_had 17 = .ok (.ireturn, 1) := by decide +kernel
theorem dX6_had_18 : decode cX6_had 18 = .ok (.aload_n 0, 1) := by decide +kernel
theorem dX6_had_19 : decode cX6_had 19 = .ok (.getfield 29, 3) := by decide +kernel
theorem dX6_had_22 : decode cX6_had 22 = .ok (.getfield 228, 3) := by decide +kernel
theorem dX6_had_25 : decode cX6_had 25 = .ok (.iload_n 1, 1) := by decide +kernel
theorem dX6_had_26 : decode cX6_had 26 = .ok (.iconst 5, 1) := by decide +kernel
theorem dX6_had_27 : decode cX6_had 27 = .ok (.imul, 1) := by decide +kernel
theorem dX6_had_28 : decode cX6_had 28 = .ok (.iload_n 2, 1) := by decide +kernel
theorem dX6_had_29 : decode cX6_had 29 = .ok (.iadd, 1) := by decide +kernel
theorem dX6_had_30 : decode cX6_had 30 = .ok (.iaload, 1) := by decide +kernel
theorem dX6_had_31 : decode cX6_had 31 = .ok (.ireturn, 1) := by decide +kernel
theorem dX6_fair_0 : decode cX6_fair 0 = .ok (.aload_n 0, 1) := by decide +kernel
theorem dX6_fair_1 : decode cX6_fair 1 = .ok (.getfield 19, 3) := by decide +kernel
theorem dX6_fair_4 : decode cX6_fair 4 = .ok (.getfield 177, 3) := by decide +kernel
theorem dX6_fair_7 : decode cX6_fair 7 = .ok (.ifCond .ne 5, 3) := by decide +kernel
theorem dX6_fair_10 : decode cX6_fair 10 = .ok (.iconst 0, 1) := by decide +kernel
theorem dX6_fair_11 : decode cX6_fair 11 = .ok (.ireturn, 1) := by decide +kernel
theorem dX6_fair_12 : decode cX6_fair 12 = .ok (.aload_n 0, 1) := by decide +kernel
theorem dX6_fair_13 : decode cX6_fair 13 = .ok (.getfield 29, 3) := by decide +kernel
theorem dX6_fair_16 : decode cX6_fair 16 = .ok (.aload_n 0, 1) := by decide +kernel
theorem dX6_fair_17 : decode cX6_fair 17 = .ok (.getfield 19, 3) := by decide +kernel
theorem dX6_fair_20 : decode cX6_fair 20 = .ok (.iconst 0, 1) := by decide +kernel
theorem dX6_fair_21 : decode cX6_fair 21 = .ok (.invokevirtual 231, 3) := by decide +kernel
theorem dX6_fair_24 : decode cX6_fair 24 = .ok (.istore_n 1, 1) := by decide +kernel
theorem dX6_fair_25 : decode cX6_fair 25 = .ok (.iload_n 1, 1) := by decide +kernel
theorem dX6_fair_26 : decode cX6_fair 26 = .ok (.istore_n 2, 1) := by decide +kernel
theorem dX6_fair_27 : decode cX6_fair 27 = .ok (.iconst 1, 1) := by decide +kernel
theorem dX6_fair_28 : decode cX6_fair 28 = .ok (.istore_n 3, 1) := by decide +kernel
theorem dX6_fair_29 : decode cX6_fair 29 = .ok (.iload_n 3, 1) := by decide +kernel
theorem dX6_fair_30 : decode cX6_fair 30 = .ok (.aload_n 0, 1) := by decide +kernel
theorem dX6_fair_31 : decode cX6_fair 31 = .ok (.getfield 19, 3) := by decide +kernel
theorem dX6_fair_34 : decode cX6_fair 34 = .ok (.getfield 177, 3) := by decide +kernel
theorem dX6_fair_37 : decode cX6_fair 37 = .ok (.if_icmp .ge 37, 3) := by decide +kernel
theorem dX6_fair_40 : decode cX6_fair 40 = .ok (.aload_n 0, 1) := by decide +kernel
theorem dX6_fair_41 : decode cX6_fair 41 = .ok (.getfield 29, 3) := by decide +kernel
theorem dX6_fair_44 : decode cX6_fair 44 = .ok (.aload_n 0, 1) := by decide +kernel
theorem dX6_fair_45 : decode cX6_fair 45 = .ok (.getfield 19, 3) := by decide +kernel
theorem dX6_fair_48 : decode cX6_fair 48 = .ok (.iload_n 3, 1) := by decide +kernel
theorem dX6_fair_49 : decode cX6_fair 49 = .ok (.invokevirtual 231, 3) := by decide +kernel
theorem dX6_fair_52 : decode cX6_fair 52 = .ok (.istore 4, 2) := by decide +kernel
theorem dX6_fair_54 : decode cX6_fair 54 = .ok (.iload_n 1, 1) := by decide +kernel
theorem dX6_fair_55 : decode cX6_fair 55 = .ok (.iload 4, 2) := by decide +kernel
theorem dX6_fair_57 : decode cX6_fair 57 = .ok (.invokestatic 235, 3) := by decide +kernel
theorem dX6_fair_60 : decode cX6_fair 60 = .ok (.istore_n 1, 1) := by decide +kernel
theorem dX6_fair_61 : decode cX6_fair 61 = .ok (.iload_n 2, 1) := by decide +kernel
theorem dX6_fair_62 : decode cX6_fair 62 = .ok (.iload 4, 2) := by decide +kernel
theorem dX6_fair_64 : decode cX6_fair 64 = .ok (.invokestatic 162, 3) := by decide +kernel
theorem dX6_fair_67 : decode cX6_fair 67 = .ok (.istore_n 2, 1) := by decide +kernel
theorem dX6_fair_68 : decode cX6_fair 68 = .ok (.iinc 3 1, 3) := by decide +kernel
theorem dX6_fair_71 : decode cX6_fair 71 = .ok (.goto (-42), 3) := by decide +kernel
theorem dX6_fair_74 : decode cX6_fair 74 = .ok (.iload_n 2, 1) := by decide +kernel
theorem dX6_fair_75 : decode cX6_fair 75 = .ok (.iload_n 1, 1) := by decide +kernel
theorem dX6_fair_76 : decode cX6_fair 76 = .ok (.isub, 1) := by decide +kernel
theorem dX6_fair_77 : decode cX6_fair 77 = .ok (.ireturn, 1) := by decide +kernel
theorem dX6_cow_0 : decode cX6_cow 0 = .ok (.iload_n 1, 1) := by decide +kernel
theorem dX6_cow_1 : decode cX6_cow 1 = .ok (.iconst 0, 1) := by decide +kernel
theorem dX6_cow_2 : decode cX6_cow 2 = .ok (.bipush 9, 2) := by decide +kernel
theorem dX6_cow_4 : decode cX6_cow 4 = .ok (.invokestatic 65, 3) := by decide +kernel
theorem dX6_cow_7 : decode cX6_cow 7 = .ok (.ifCond .eq 22, 3) := by decide +kernel
theorem dX6_cow_10 : decode cX6_cow 10 = .ok (.iload_n 2, 1) := by decide +kernel
theorem dX6_cow_11 : decode cX6_cow 11 = .ok (.iconst 0, 1) := by decide +kernel
theorem dX6_cow_12 : decode cX6_cow 12 = .ok (.bipush 9, 2) := by decide +kernel
theorem dX6_cow_14 : decode cX6_cow 14 = .ok (.invokestatic 65, 3) := by decide +kernel
theorem dX6_cow_17 : decode cX6_cow 17 = .ok (.ifCond .eq 12, 3) := by decide +kernel
theorem dX6_cow_20 : decode cX6_cow 20 = .ok (.iload_n 3, 1) := by decide +kernel
theorem dX6_cow_21 : decode cX6_cow 21 = .ok (.iconst 0, 1) := by decide +kernel
theorem dX6_cow_22 : decode cX6_cow 22 = .ok (.iconst 1, 1) := by decide +kernel
theorem dX6_cow_23 : decode cX6_cow 23 = .ok (.invokestatic 65, 3) := by decide +kernel
theorem dX6_cow_26 : decode cX6_cow 26 = .ok (.ifCond .ne 5, 3) := by decide +kernel
theorem dX6_cow_29 : decode cX6_cow 29 = .ok (.iconst (-1), 1) := by decide +kernel
theorem dX6_cow_30 : decode cX6_cow 30 = .ok (.ireturn, 1) := by decide +kernel
theorem dX6_cow_31 : decode cX6_cow 31 = .ok (.iload_n 1, 1) := by decide +kernel
theorem dX6_cow_32 : decode cX6_cow 32 = .ok (.iload_n 2, 1) := by decide +kernel
theorem dX6_cow_33 : decode cX6_cow 33 = .ok (.imul, 1) := by decide +kernel
theorem dX6_cow_34 : decode cX6_cow 34 = .ok (.istore 4, 2) := by decide +kernel
theorem dX6_cow_36 : decode cX6_cow 36 = .ok (.bipush 10, 2) := by decide +kernel
theorem dX6_cow_38 : decode cX6_cow 38 = .ok (.iload_n 1, 1) := by decide +kernel
theorem dX6_cow_39 : decode cX6_cow 39 = .ok (.isub, 1) := by decide +kernel
theorem dX6_cow_40 : decode cX6_cow 40 = .ok (.bipush 10, 2) := by decide +kernel
theorem dX6_cow_42 : decode cX6_cow 42 = .ok (.imul, 1) := by decide +kernel
theorem dX6_cow_43 : decode cX6_cow 43 = .ok (.istore 5, 2) := by decide +kernel
theorem dX6_cow_45 : decode cX6_cow 45 = .ok (.iload 4, 2) := by decide +kernel
theorem dX6_cow_47 : decode cX6_cow 47 = .ok (.iload 4, 2) := by decide +kernel
theorem dX6_cow_49 : decode cX6_cow 49 = .ok (.iload 5, 2) := by decide +kernel
theorem dX6_cow_51 : decode cX6_cow 51 = .ok (.iadd, 1) := by decide +kernel
theorem dX6_cow_52 : decode cX6_cow 52 = .ok (.iload_n 3, 1) := by decide +kernel
theorem dX6_cow_53 : decode cX6_cow 53 = .ok (.invokestatic 209, 3) := by decide +kernel
theorem dX6_cow_56 : decode cX6_cow 56 = .ok (.ireturn, 1) := by decide +kernel
theorem dX6_rate_0 : decode cX6_rate 0 = .ok (.aload_n 0, 1) := by decide +kernel
theorem dX6_rate_1 : decode cX6_rate 1 = .ok (.iload_n 2, 1) := by decide +kernel
theorem dX6_rate_2 : decode cX6_rate 2 = .ok (.invokevirtual 88, 3) := by decide +kernel
theorem dX6_rate_5 : decode cX6_rate 5 = .ok (.ifCond .ne 6, 3) := by decide +kernel
theorem dX6_rate_8 : decode cX6_rate 8 = .ok (.ldc 238, 2) := by decide +kernel
theorem dX6_rate_10 : decode cX6_rate 10 = .ok (.ireturn, 1) := by decide +kernel
theorem dX6_rate_11 : decode cX6_rate 11 = .ok (.iload_n 1, 1) := by decide +kernel
theorem dX6_rate_12 : decode cX6_rate 12 = .ok (.tableswitch 76 0 5 #[40, 46, 52, 58, 64, 70], 40) := by decide +kernel
theorem dX6_rate_52 : decode cX6_rate 52 = .ok (.aload_n 0, 1) := by decide +kernel
theorem dX6_rate_53 : decode cX6_rate 53 = .ok (.iload_n 2, 1) := by decide +kernel
theorem dX6_rate_54 : decode cX6_rate 54 = .ok (.invokevirtual 239, 3) := by decide +kernel
theorem dX6_rate_57 : decode cX6_rate 57 = .ok (.ireturn, 1) := by decide +kernel
theorem dX6_rate_58 : decode cX6_rate 58 = .ok (.aload_n 0, 1) := by decide +kernel
theorem dX6_rate_59 : decode cX6_rate 59 = .ok (.iload_n 2, 1) := by decide +kernel
theorem dX6_rate_60 : decode cX6_rate 60 = .ok (.invokevirtual 242, 3) := by decide +kernel
theorem dX6_rate_63 : decode cX6_rate 63 = .ok (.ireturn, 1) := by decide +kernel
theorem dX6_rate_64 : decode cX6_rate 64 = .ok (.aload_n 0, 1) := by decide +kernel
theorem dX6_rate_65 : decode cX6_rate 65 = .ok (.iload_n 2, 1) := by decide +kernel
theorem dX6_rate_66 : decode cX6_rate 66 = .ok (.invokevirtual 245, 3) := by decide +kernel
theorem dX6_rate_69 : decode cX6_rate 69 = .ok (.ireturn, 1) := by decide +kernel
theorem dX6_rate_70 : decode cX6_rate 70 = .ok (.aload_n 0, 1) := by decide +kernel
theorem dX6_rate_71 : decode cX6_rate 71 = .ok (.iload_n 2, 1) := by decide +kernel
theorem dX6_rate_72 : decode cX6_rate 72 = .ok (.invokevirtual 248, 3) := by decide +kernel
theorem dX6_rate_75 : decode cX6_rate 75 = .ok (.ireturn, 1) := by decide +kernel
theorem dX6_rate_76 : decode cX6_rate 76 = .ok (.aload_n 0, 1) := by decide +kernel
theorem dX6_rate_77 : decode cX6_rate 77 = .ok (.iload_n 2, 1) := by decide +kernel
theorem dX6_rate_78 : decode cX6_rate 78 = .ok (.invokevirtual 251, 3) := by decide +kernel
theorem dX6_rate_81 : decode cX6_rate 81 = .ok (.ireturn, 1) := by decide +kernel
theorem dX6_rate_82 : decode cX6_rate 82 = .ok (.aload_n 0, 1) := by decide +kernel
theorem dX6_rate_83 : decode cX6_rate 83 = .ok (.iload_n 2, 1) := by decide +kernel
theorem dX6_rate_84 : decode cX6_rate 84 = .ok (.invokevirtual 254, 3) := by decide +kernel
theorem dX6_rate_87 : decode cX6_rate 87 = .ok (.ireturn, 1) := by decide +kernel
theorem dX6_rate_88 : decode cX6_rate 88 = .ok (.ldc 238, 2) := by decide +kernel
theorem dX6_rate_90 : decode cX6_rate 90 = .ok (.ireturn, 1) := by decide +kernel
theorem dX6_keep_0 : decode cX6_keep 0 = .ok (.iload_n 1, 1) := by decide +kernel
theorem dX6_keep_1 : decode cX6_keep 1 = .ok (.iconst 0, 1) := by decide +kernel
theorem dX6_keep_2 : decode cX6_keep 2 = .ok (.iconst 1, 1) := by decide +kernel
theorem dX6_keep_3 : decode cX6_keep 3 = .ok (.invokestatic 65, 3) := by decide +kernel
theorem dX6_keep_6 : decode cX6_keep 6 = .ok (.ifCond .ne 5, 3) := by decide +kernel
theorem dX6_keep_9 : decode cX6_keep 9 = .ok (.iconst (-1), 1) := by decide +kernel
theorem dX6_keep_10 : decode cX6_keep 10 = .ok (.ireturn, 1) := by decide +kernel
theorem dX6_keep_11 : decode cX6_keep 11 = .ok (.aload_n 0, 1) := by decide +kernel
theorem dX6_keep_12 : decode cX6_keep 12 = .ok (.getfield 43, 3) := by decide +kernel
theorem dX6_keep_15 : decode cX6_keep 15 = .ok (.iload_n 1, 1) := by decide +kernel
theorem dX6_keep_16 : decode cX6_keep 16 = .ok (.aaload, 1) := by decide +kernel
theorem dX6_keep_17 : decode cX6_keep 17 = .ok (.aload_n 0, 1) := by decide +kernel
theorem dX6_keep_18 : decode cX6_keep 18 = .ok (.getfield 29, 3) := by decide +kernel
theorem dX6_keep_21 : decode cX6_keep 21 = .ok (.invokevirtual 156, 3) := by decide +kernel
theorem dX6_keep_24 : decode cX6_keep 24 = .ok (.aload_n 0, 1) := by decide +kernel
theorem dX6_keep_25 : decode cX6_keep 25 = .ok (.getfield 47, 3) := by decide +kernel
theorem dX6_keep_28 : decode cX6_keep 28 = .ok (.iload_n 1, 1) := by decide +kernel
theorem dX6_keep_29 : decode cX6_keep 29 = .ok (.iconst 1, 1) := by decide +kernel
theorem dX6_keep_30 : decode cX6_keep 30 = .ok (.bastore, 1) := by decide +kernel
theorem dX6_keep_31 : decode cX6_keep 31 = .ok (.aload_n 0, 1) := by decide +kernel
theorem dX6_keep_32 : decode cX6_keep 32 = .ok (.getfield 29, 3) := by decide +kernel
theorem dX6_keep_35 : decode cX6_keep 35 = .ok (.getfield 117, 3) := by decide +kernel
theorem dX6_keep_38 : decode cX6_keep 38 = .ok (.ireturn, 1) := by decide +kernel
theorem dX6_back_0 : decode cX6_back 0 = .ok (.iload_n 1, 1) := by decide +kernel
theorem dX6_back_1 : decode cX6_back 1 = .ok (.iconst 0, 1) := by decide +kernel
theorem dX6_back_2 : decode cX6_back 2 = .ok (.iconst 1, 1) := by decide +kernel
theorem dX6_back_3 : decode cX6_back 3 = .ok (.invokestatic 65, 3) := by decide +kernel
theorem dX6_back_6 : decode cX6_back 6 = .ok (.ifCond .ne 5, 3) := by decide +kernel
theorem dX6_back_9 : decode cX6_back 9 = .ok (.iconst (-1), 1) := by decide +kernel
theorem dX6_back_10 : decode cX6_back 10 = .ok (.ireturn, 1) := by decide +kernel
theorem dX6_back_11 : decode cX6_back 11 = .ok (.aload_n 0, 1) := by decide +kernel
theorem dX6_back_12 : decode cX6_back 12 = .ok (.getfield 47, 3) := by decide +kernel
theorem dX6_back_15 : decode cX6_back 15 = .ok (.iload_n 1, 1) := by decide +kernel
theorem dX6_back_16 : decode cX6_back 16 = .ok (.baload, 1) := by decide +kernel
theorem dX6_back_17 : decode cX6_back 17 = .ok (.ifCond .ne 6, 3) := by decide +kernel
theorem dX6_back_20 : decode cX6_back 20 = .ok (.bipush (-2), 2) := by decide +kernel
theorem dX6_back_22 : decode cX6_back 22 = .ok (.ireturn, 1) := by decide +kernel
theorem dX6_back_23 : decode cX6_back 23 = .ok (.aload_n 0, 1) := by decide +kernel
theorem dX6_back_24 : decode cX6_back 24 = .ok (.getfield 29, 3) := by decide +kernel
theorem dX6_back_27 : decode cX6_back 27 = .ok (.aload_n 0, 1) := by decide +kernel
theorem dX6_back_28 : decode cX6_back 28 = .ok (.getfield 43, 3) := by decide +kernel
theorem dX6_back_31 : decode cX6_back 31 = .ok (.iload_n 1, 1) := by decide +kernel
theorem dX6_back_32 : decode cX6_back 32 = .ok (.aaload, 1) := by decide +kernel
theorem dX6_back_33 : decode cX6_back 33 = .ok (.invokevirtual 156, 3) := by decide +kernel
theorem dX6_back_36 : decode cX6_back 36 = .ok (.aload_n 0, 1) := by decide +kernel
theorem dX6_back_37 : decode cX6_back 37 = .ok (.getfield 39, 3) := by decide +kernel
theorem dX6_back_40 : decode cX6_back 40 = .ok (.iconst 0, 1) := by decide +kernel
theorem dX6_back_41 : decode cX6_back 41 = .ok (.putfield 130, 3) := by decide +kernel
theorem dX6_back_44 : decode cX6_back 44 = .ok (.aload_n 0, 1) := by decide +kernel
theorem dX6_back_45 : decode cX6_back 45 = .ok (.getfield 29, 3) := by decide +kernel
theorem dX6_back_48 : decode cX6_back 48 = .ok (.getfield 117, 3) := by decide +kernel
theorem dX6_back_51 : decode cX6_back 51 = .ok (.ireturn, 1) := by decide +kernel
theorem dX6_count_0 : decode cX6_count 0 = .ok (.iload_n 1, 1) := by decide +kernel
theorem dX6_count_1 : decode cX6_count 1 = .ok (.tableswitch 87 0 5 #[39, 47, 55, 63, 71, 79], 39) := by decide +kernel
theorem dX6_count_40 : decode cX6_count 40 = .ok (.aload_n 0, 1) := by decide +kernel
theorem dX6_count_41 : decode cX6_count 41 = .ok (.getfield 19, 3) := by decide +kernel
theorem dX6_count_44 : decode cX6_count 44 = .ok (.getfield 171, 3) := by decide +kernel
theorem dX6_count_47 : decode cX6_count 47 = .ok (.ireturn, 1) := by decide +kernel
theorem dX6_count_48 : decode cX6_count 48 = .ok (.aload_n 0, 1) := by decide +kernel
theorem dX6_count_49 : decode cX6_count 49 = .ok (.getfield 19, 3) := by decide +kernel
theorem dX6_count_52 : decode cX6_count 52 = .ok (.getfield 177, 3) := by decide +kernel
theorem dX6_count_55 : decode cX6_count 55 = .ok (.ireturn, 1) := by decide +kernel
theorem dX6_count_56 : decode cX6_count 56 = .ok (.aload_n 0, 1) := by decide +kernel
theorem dX6_count_57 : decode cX6_count 57 = .ok (.getfield 19, 3) := by decide +kernel
theorem dX6_count_60 : decode cX6_count 60 = .ok (.getfield 257, 3) := by decide +kernel
theorem dX6_count_63 : decode cX6_count 63 = .ok (.ireturn, 1) := by decide +kernel
theorem dX6_count_64 : decode cX6_count 64 = .ok (.aload_n 0, 1) := by decide +kernel
theorem dX6_count_65 : decode cX6_count 65 = .ok (.getfield 19, 3) := by decide +kernel
theorem dX6_count_68 : decode cX6_count 68 = .ok (.getfield 260, 3) := by decide +kernel
theorem dX6_count_71 : decode cX6_count 71 = .ok (.ireturn, 1) := by decide +kernel
theorem dX6_count_72 : decode cX6_count 72 = .ok (.aload_n 0, 1) := by decide +kernel
theorem dX6_count_73 : decode cX6_count 73 = .ok (.getfield 54, 3) := by decide +kernel
theorem dX6_count_76 : decode cX6_count 76 = .ok (.getfield 218, 3) := by decide +kernel
theorem dX6_count_79 : decode cX6_count 79 = .ok (.ireturn, 1) := by decide +kernel
theorem dX6_count_80 : decode cX6_count 80 = .ok (.aload_n 0, 1) := by decide +kernel
theorem dX6_count_81 : decode cX6_count 81 = .ok (.getfield 10, 3) := by decide +kernel
theorem dX6_count_84 : decode cX6_count 84 = .ok (.getfield 73, 3) := by decide +kernel
theorem dX6_count_87 : decode cX6_count 87 = .ok (.ireturn, 1) := by decide +kernel
theorem dX6_count_88 : decode cX6_count 88 = .ok (.iconst (-1), 1) := by decide +kernel
theorem dX6_count_89 : decode cX6_count 89 = .ok (.ireturn, 1) := by decide +kernel
theorem dX6_trace_0 : decode cX6_trace 0 = .ok (.aload_n 0, 1) := by decide +kernel
theorem dX6_trace_1 : decode cX6_trace 1 = .ok (.getfield 263, 3) := by decide +kernel
theorem dX6_trace_4 : decode cX6_trace 4 = .ok (.lreturn, 1) := by decide +kernel
theorem dX6_within_0 : decode cX6_within 0 = .ok (.iload_n 0, 1) := by decide +kernel
theorem dX6_within_1 : decode cX6_within 1 = .ok (.iload_n 1, 1) := by decide +kernel
theorem dX6_within_2 : decode cX6_within 2 = .ok (.if_icmp .lt 12, 3) := by decide +kernel
theorem dX6_within_5 : decode cX6_within 5 = .ok (.iload_n 0, 1) := by decide +kernel
theorem dX6_within_6 : decode cX6_within 6 = .ok (.iload_n 2, 1) := by decide +kernel
theorem dX6_within_7 : decode cX6_within 7 = .ok (.if_icmp .gt 7, 3) := by decide +kernel
theorem dX6_within_10 : decode cX6_within 10 = .ok (.iconst 1, 1) := by decide +kernel
theorem dX6_within_11 : decode cX6_within 11 = .ok (.goto 4, 3) := by decide +kernel
theorem dX6_within_14 : decode cX6_within 14 = .ok (.iconst 0, 1) := by decide +kernel
theorem dX6_within_15 : decode cX6_within 15 = .ok (.ireturn, 1) := by decide +kernel
theorem dX6_isPost_0 : decode cX6_isPost 0 = .ok (.iload_n 1, 1) := by decide +kernel
theorem dX6_isPost_1 : decode cX6_isPost 1 = .ok (.iconst 0, 1) := by decide +kernel
theorem dX6_isPost_2 : decode cX6_isPost 2 = .ok (.aload_n 0, 1) := by decide +kernel
theorem dX6_isPost_3 : decode cX6_isPost 3 = .ok (.getfield 19, 3) := by decide +kernel
theorem dX6_isPost_6 : decode cX6_isPost 6 = .ok (.getfield 171, 3) := by decide +kernel
theorem dX6_isPost_9 : decode cX6_isPost 9 = .ok (.iconst 1, 1) := by decide +kernel
theorem dX6_isPost_10 : decode cX6_isPost 10 = .ok (.isub, 1) := by decide +kernel
theorem dX6_isPost_11 : decode cX6_isPost 11 = .ok (.invokestatic 65, 3) := by decide +kernel
theorem dX6_isPost_14 : decode cX6_isPost 14 = .ok (.ireturn, 1) := by decide +kernel
theorem dX6_isMan_0 : decode cX6_isMan 0 = .ok (.iload_n 1, 1) := by decide +kernel
theorem dX6_isMan_1 : decode cX6_isMan 1 = .ok (.iconst 0, 1) := by decide +kernel
theorem dX6_isMan_2 : decode cX6_isMan 2 = .ok (.aload_n 0, 1) := by decide +kernel
theorem dX6_isMan_3 : decode cX6_isMan 3 = .ok (.getfield 19, 3) := by decide +kernel
theorem dX6_isMan_6 : decode cX6_isMan 6 = .ok (.getfield 177, 3) := by decide +kernel
theorem dX6_isMan_9 : decode cX6_isMan 9 = .ok (.iconst 1, 1) := by decide +kernel
theorem dX6_isMan_10 : decode cX6_isMan 10 = .ok (.isub, 1) := by decide +kernel
theorem dX6_isMan_11 : decode cX6_isMan 11 = .ok (.invokestatic 65, 3) := by decide +kernel
theorem dX6_isMan_14 : decode cX6_isMan 14 = .ok (.ireturn, 1) := by decide +kernel
theorem dX6_beginAnew_0 : decode cX6_beginAnew 0 = .ok (.aload_n 0, 1) := by decide +kernel
theorem dX6_beginAnew_1 : decode cX6_beginAnew 1 = .ok (.getfield 29, 3) := by decide +kernel
theorem dX6_beginAnew_4 : decode cX6_beginAnew 4 = .ok (.aload_n 0, 1) := by decide +kernel
theorem dX6_beginAnew_5 : decode cX6_beginAnew 5 = .ok (.getfield 19, 3) := by decide +kernel
theorem dX6_beginAnew_8 : decode cX6_beginAnew 8 = .ok (.invokevirtual 267, 3) := by decide +kernel
theorem dX6_beginAnew_11 : decode cX6_beginAnew 11 = .ok (.aload_n 0, 1) := by decide +kernel
theorem dX6_beginAnew_12 : decode cX6_beginAnew 12 = .ok (.getfield 39, 3) := by decide +kernel
theorem dX6_beginAnew_15 : decode cX6_beginAnew 15 = .ok (.iconst 0, 1) := by decide +kernel
theorem dX6_beginAnew_16 : decode cX6_beginAnew 16 = .ok (.putfield 130, 3) := by decide +kernel
theorem dX6_beginAnew_19 : decode cX6_beginAnew 19 = .ok (.aload_n 0, 1) := by decide +kernel
theorem dX6_beginAnew_20 : decode cX6_beginAnew 20 = .ok (.getfield 54, 3) := by decide +kernel
theorem dX6_beginAnew_23 : decode cX6_beginAnew 23 = .ok (.iconst 0, 1) := by decide +kernel
theorem dX6_beginAnew_24 : decode cX6_beginAnew 24 = .ok (.putfield 218, 3) := by decide +kernel
theorem dX6_beginAnew_27 : decode cX6_beginAnew 27 = .ok (.iconst 0, 1) := by decide +kernel
theorem dX6_beginAnew_28 : decode cX6_beginAnew 28 = .ok (.istore_n 1, 1) := by decide +kernel
theorem dX6_beginAnew_29 : decode cX6_beginAnew 29 = .ok (.iload_n 1, 1) := by decide +kernel
theorem dX6_beginAnew_30 : decode cX6_beginAnew 30 = .ok (.iconst 2, 1) := by decide +kernel
theorem dX6_beginAnew_31 : decode cX6_beginAnew 31 = .ok (.if_icmp .ge 16, 3) := by decide +kernel
theorem dX6_beginAnew_34 : decode cX6_beginAnew 34 = .ok (.aload_n 0, 1) := by decide +kernel
theorem dX6_beginAnew_35 : decode cX6_beginAnew 35 = .ok (.getfield 47, 3) := by decide +kernel
theorem dX6_beginAnew_38 : decode cX6_beginAnew 38 = .ok (.iload_n 1, 1) := by decide +kernel
theorem dX6_beginAnew_39 : decode cX6_beginAnew 39 = .ok (.iconst 0, 1) := by decide +kernel
theorem dX6_beginAnew_40 : decode cX6_beginAnew 40 = .ok (.bastore, 1) := by decide +kernel
theorem dX6_beginAnew_41 : decode cX6_beginAnew 41 = .ok (.iinc 1 1, 3) := by decide +kernel
theorem dX6_beginAnew_44 : decode cX6_beginAnew 44 = .ok (.goto (-15), 3) := by decide +kernel
theorem dX6_beginAnew_47 : decode cX6_beginAnew 47 = .ok (.return_, 1) := by decide +kernel
theorem dX6_canBeLeft_0 : decode cX6_canBeLeft 0 = .ok (.aload_n 0, 1) := by decide +kernel
theorem dX6_canBeLeft_1 : decode cX6_canBeLeft 1 = .ok (.getfield 19, 3) := by decide +kernel
theorem dX6_canBeLeft_4 : decode cX6_canBeLeft 4 = .ok (.invokevirtual 190, 3) := by decide +kernel
theorem dX6_canBeLeft_7 : decode cX6_canBeLeft 7 = .ok (.iload_n 1, 1) := by decide +kernel
theorem dX6_canBeLeft_8 : decode cX6_canBeLeft 8 = .ok (.iconst (-1), 1) := by decide +kernel
theorem dX6_canBeLeft_9 : decode cX6_canBeLeft 9 = .ok (.ixor, 1) := by decide +kernel
theorem dX6_canBeLeft_10 : decode cX6_canBeLeft 10 = .ok (.iand, 1) := by decide +kernel
theorem dX6_canBeLeft_11 : decode cX6_canBeLeft 11 = .ok (.istore_n 2, 1) := by decide +kernel
theorem dX6_canBeLeft_12 : decode cX6_canBeLeft 12 = .ok (.aload_n 0, 1) := by decide +kernel
theorem dX6_canBeLeft_13 : decode cX6_canBeLeft 13 = .ok (.getfield 19, 3) := by decide +kernel
theorem dX6_canBeLeft_16 : decode cX6_canBeLeft 16 = .ok (.iload_n 2, 1) := by decide +kernel
theorem dX6_canBeLeft_17 : decode cX6_canBeLeft 17 = .ok (.invokevirtual 199, 3) := by decide +kernel
theorem dX6_canBeLeft_20 : decode cX6_canBeLeft 20 = .ok (.aload_n 0, 1) := by decide +kernel
theorem dX6_canBeLeft_21 : decode cX6_canBeLeft 21 = .ok (.getfield 19, 3) := by decide +kernel
theorem dX6_canBeLeft_24 : decode cX6_canBeLeft 24 = .ok (.invokevirtual 190, 3) := by decide +kernel
theorem dX6_canBeLeft_27 : decode cX6_canBeLeft 27 = .ok (.if_icmp .ne 7, 3) := by decide +kernel
theorem dX6_canBeLeft_30 : decode cX6_canBeLeft 30 = .ok (.iconst 1, 1) := by decide +kernel
theorem dX6_canBeLeft_31 : decode cX6_canBeLeft 31 = .ok (.goto 4, 3) := by decide +kernel
theorem dX6_canBeLeft_34 : decode cX6_canBeLeft 34 = .ok (.iconst 0, 1) := by decide +kernel
theorem dX6_canBeLeft_35 : decode cX6_canBeLeft 35 = .ok (.ireturn, 1) := by decide +kernel
theorem dX6_seenOnlyFrom_0 : decode cX6_seenOnlyFrom 0 = .ok (.aload_n 0, 1) := by decide +kernel
theorem dX6_seenOnlyFrom_1 : decode cX6_seenOnlyFrom 1 = .ok (.getfield 19, 3) := by decide +kernel
theorem dX6_seenOnlyFrom_4 : decode cX6_seenOnlyFrom 4 = .ok (.iload_n 1, 1) := by decide +kernel
theorem dX6_seenOnlyFrom_5 : decode cX6_seenOnlyFrom 5 = .ok (.invokevirtual 91, 3) := by decide +kernel
theorem dX6_seenOnlyFrom_8 : decode cX6_seenOnlyFrom 8 = .ok (.istore_n 2, 1) := by decide +kernel
theorem dX6_seenOnlyFrom_9 : decode cX6_seenOnlyFrom 9 = .ok (.iconst 0, 1) := by decide +kernel
theorem dX6_seenOnlyFrom_10 : decode cX6_seenOnlyFrom 10 = .ok (.istore_n 3, 1) := by decide +kernel
theorem dX6_seenOnlyFrom_11 : decode cX6_seenOnlyFrom 11 = .ok (.iload_n 3, 1) := by decide +kernel
theorem dX6_seenOnlyFrom_12 : decode cX6_seenOnlyFrom 12 = .ok (.aload_n 0, 1) := by decide +kernel
theorem dX6_seenOnlyFrom_13 : decode cX6_seenOnlyFrom 13 = .ok (.getfield 19, 3) := by decide +kernel
theorem dX6_seenOnlyFrom_16 : decode cX6_seenOnlyFrom 16 = .ok (.getfield 171, 3) := by decide +kernel
theorem dX6_seenOnlyFrom_19 : decode cX6_seenOnlyFrom 19 = .ok (.if_icmp .ge 27, 3) := by decide +kernel
theorem dX6_seenOnlyFrom_22 : decode cX6_seenOnlyFrom 22 = .ok (.iload_n 3, 1) := by decide +kernel
theorem dX6_seenOnlyFrom_23 : decode cX6_seenOnlyFrom 23 = .ok (.iload_n 1, 1) := by decide +kernel
theorem dX6_seenOnlyFrom_24 : decode cX6_seenOnlyFrom 24 = .ok (.if_icmp .eq 16, 3) := by decide +kernel
theorem dX6_seenOnlyFrom_27 : decode cX6_seenOnlyFrom 27 = .ok (.iload_n 2, 1) := by decide +kernel
theorem dX6_seenOnlyFrom_28 : decode cX6_seenOnlyFrom 28 = .ok (.aload_n 0, 1) := by decide +kernel
theorem dX6_seenOnlyFrom_29 : decode cX6_seenOnlyFrom 29 = .ok (.getfield 19, 3) := by decide +kernel
theorem dX6_seenOnlyFrom_32 : decode cX6_seenOnlyFrom 32 = .ok (.iload_n 3, 1) := by decide +kernel
theorem dX6_seenOnlyFrom_33 : decode cX6_seenOnlyFrom 33 = .ok (.invokevirtual 91, 3) := by decide +kernel
theorem dX6_seenOnlyFrom_36 : decode cX6_seenOnlyFrom 36 = .ok (.iconst (-1), 1) := by decide +kernel
theorem dX6_seenOnlyFrom_37 : decode cX6_seenOnlyFrom 37 = .ok (.ixor, 1) := by decide +kernel
theorem dX6_seenOnlyFrom_38 : decode cX6_seenOnlyFrom 38 = .ok (.iand, 1) := by decide +kernel
theorem dX6_seenOnlyFrom_39 : decode cX6_seenOnlyFrom 39 = .ok (.istore_n 2, 1) := by decide +kernel
theorem dX6_seenOnlyFrom_40 : decode cX6_seenOnlyFrom 40 = .ok (.iinc 3 1, 3) := by decide +kernel
theorem dX6_seenOnlyFrom_43 : decode cX6_seenOnlyFrom 43 = .ok (.goto (-32), 3) := by decide +kernel
theorem dX6_seenOnlyFrom_46 : decode cX6_seenOnlyFrom 46 = .ok (.iload_n 2, 1) := by decide +kernel
theorem dX6_seenOnlyFrom_47 : decode cX6_seenOnlyFrom 47 = .ok (.ireturn, 1) := by decide +kernel
theorem dX6_weightOfWaking_0 : decode cX6_weightOfWaking 0 = .ok (.iload_n 2, 1) := by decide +kernel
theorem dX6_weightOfWaking_1 : decode cX6_weightOfWaking 1 = .ok (.iload_n 0, 1) := by decide +kernel
theorem dX6_weightOfWaking_2 : decode cX6_weightOfWaking 2 = .ok (.invokestatic 141, 3) := by decide +kernel
theorem dX6_weightOfWaking_5 : decode cX6_weightOfWaking 5 = .ok (.invokestatic 206, 3) := by decide +kernel
theorem dX6_weightOfWaking_8 : decode cX6_weightOfWaking 8 = .ok (.bipush 10, 2) := by decide +kernel
theorem dX6_weightOfWaking_10 : decode cX6_weightOfWaking 10 = .ok (.iload_n 2, 1) := by decide +kernel
theorem dX6_weightOfWaking_11 : decode cX6_weightOfWaking 11 = .ok (.isub, 1) := by decide +kernel
theorem dX6_weightOfWaking_12 : decode cX6_weightOfWaking 12 = .ok (.iload_n 1, 1) := by decide +kernel
theorem dX6_weightOfWaking_13 : decode cX6_weightOfWaking 13 = .ok (.iload_n 0, 1) := by decide +kernel
theorem dX6_weightOfWaking_14 : decode cX6_weightOfWaking 14 = .ok (.iconst (-1), 1) := by decide +kernel
theorem dX6_weightOfWaking_15 : decode cX6_weightOfWaking 15 = .ok (.ixor, 1) := by decide +kernel
theorem dX6_weightOfWaking_16 : decode cX6_weightOfWaking 16 = .ok (.iand, 1) := by decide +kernel
theorem dX6_weightOfWaking_17 : decode cX6_weightOfWaking 17 = .ok (.invokestatic 141, 3) := by decide +kernel
theorem dX6_weightOfWaking_20 : decode cX6_weightOfWaking 20 = .ok (.invokestatic 206, 3) := by decide +kernel
theorem dX6_weightOfWaking_23 : decode cX6_weightOfWaking 23 = .ok (.imul, 1) := by decide +kernel
theorem dX6_weightOfWaking_24 : decode cX6_weightOfWaking 24 = .ok (.ireturn, 1) := by decide +kernel
theorem dX6_power_0 : decode cX6_power 0 = .ok (.iconst 1, 1) := by decide +kernel
theorem dX6_power_1 : decode cX6_power 1 = .ok (.istore_n 2, 1) := by decide +kernel
theorem dX6_power_2 : decode cX6_power 2 = .ok (.iconst 0, 1) := by decide +kernel
theorem dX6_power_3 : decode cX6_power 3 = .ok (.istore_n 3, 1) := by decide +kernel
theorem dX6_power_4 : decode cX6_power 4 = .ok (.iload_n 3, 1) := by decide +kernel
theorem dX6_power_5 : decode cX6_power 5 = .ok (.iload_n 1, 1) := by decide +kernel
theorem dX6_power_6 : decode cX6_power 6 = .ok (.if_icmp .ge 13, 3) := by decide +kernel
theorem dX6_power_9 : decode cX6_power 9 = .ok (.iload_n 2, 1) := by decide +kernel
theorem dX6_power_10 : decode cX6_power 10 = .ok (.iload_n 0, 1) := by decide +kernel
theorem dX6_power_11 : decode cX6_power 11 = .ok (.imul, 1) := by decide +kernel
theorem dX6_power_12 : decode cX6_power 12 = .ok (.istore_n 2, 1) := by decide +kernel
theorem dX6_power_13 : decode cX6_power 13 = .ok (.iinc 3 1, 3) := by decide +kernel
theorem dX6_power_16 : decode cX6_power 16 = .ok (.goto (-12), 3) := by decide +kernel
theorem dX6_power_19 : decode cX6_power 19 = .ok (.iload_n 2, 1) := by decide +kernel
theorem dX6_power_20 : decode cX6_power 20 = .ok (.ireturn, 1) := by decide +kernel
theorem dX6_leastTerms_0 : decode cX6_leastTerms 0 = .ok (.iconst 1, 1) := by decide +kernel
theorem dX6_leastTerms_1 : decode cX6_leastTerms 1 = .ok (.iload_n 0, 1) := by decide +kernel
theorem dX6_leastTerms_2 : decode cX6_leastTerms 2 = .ok (.iload_n 1, 1) := by decide +kernel
theorem dX6_leastTerms_3 : decode cX6_leastTerms 3 = .ok (.invokestatic 270, 3) := by decide +kernel
theorem dX6_leastTerms_6 : decode cX6_leastTerms 6 = .ok (.invokestatic 162, 3) := by decide +kernel
theorem dX6_leastTerms_9 : decode cX6_leastTerms 9 = .ok (.istore_n 3, 1) := by decide +kernel
theorem dX6_leastTerms_10 : decode cX6_leastTerms 10 = .ok (.iload_n 2, 1) := by decide +kernel
theorem dX6_leastTerms_11 : decode cX6_leastTerms 11 = .ok (.ifCond .ne 7, 3) := by decide +kernel
theorem dX6_leastTerms_14 : decode cX6_leastTerms 14 = .ok (.iload_n 0, 1) := by decide +kernel
theorem dX6_leastTerms_15 : decode cX6_leastTerms 15 = .ok (.goto 4, 3) := by decide +kernel
theorem dX6_leastTerms_18 : decode cX6_leastTerms 18 = .ok (.iload_n 1, 1) := by decide +kernel
theorem dX6_leastTerms_19 : decode cX6_leastTerms 19 = .ok (.iload_n 3, 1) := by decide +kernel
theorem dX6_leastTerms_20 : decode cX6_leastTerms 20 = .ok (.idiv, 1) := by decide +kernel
theorem dX6_leastTerms_21 : decode cX6_leastTerms 21 = .ok (.ireturn, 1) := by decide +kernel
theorem dX6_commonDivisor_0 : decode cX6_commonDivisor 0 = .ok (.iload_n 0, 1) := by decide +kernel
theorem dX6_commonDivisor_1 : decode cX6_commonDivisor 1 = .ok (.istore_n 2, 1) := by decide +kernel
theorem dX6_commonDivisor_2 : decode cX6_commonDivisor 2 = .ok (.iload_n 1, 1) := by decide +kernel
theorem dX6_commonDivisor_3 : decode cX6_commonDivisor 3 = .ok (.istore_n 3, 1) := by decide +kernel
theorem dX6_commonDivisor_4 : decode cX6_commonDivisor 4 = .ok (.iconst 0, 1) := by decide +kernel
theorem dX6_commonDivisor_5 : decode cX6_commonDivisor 5 = .ok (.istore 4, 2) := by decide +kernel
theorem dX6_commonDivisor_7 : decode cX6_commonDivisor 7 = .ok (.iload 4, 2) := by decide +kernel
theorem dX6_commonDivisor_9 : decode cX6_commonDivisor 9 = .ok (.bipush 64, 2) := by decide +kernel
theorem dX6_commonDivisor_11 : decode cX6_commonDivisor 11 = .ok (.if_icmp .ge 23, 3) := by decide +kernel
theorem dX6_commonDivisor_14 : decode cX6_commonDivisor 14 = .ok (.iload_n 3, 1) := by decide +kernel
theorem dX6_commonDivisor_15 : decode cX6_commonDivisor 15 = .ok (.ifCond .eq 19, 3) := by decide +kernel
theorem dX6_commonDivisor_18 : decode cX6_commonDivisor 18 = .ok (.iload_n 2, 1) := by decide +kernel
theorem dX6_commonDivisor_19 : decode cX6_commonDivisor 19 = .ok (.iload_n 3, 1) := by decide +kernel
theorem dX6_commonDivisor_20 : decode cX6_commonDivisor 20 = .ok (.irem, 1) := by decide +kernel
theorem dX6_commonDivisor_21 : decode cX6_commonDivisor 21 = .ok (.istore 5, 2) := by decide +kernel
theorem dX6_commonDivisor_23 : decode cX6_commonDivisor 23 = .ok (.iload_n 3, 1) := by decide +kernel
theorem dX6_commonDivisor_24 : decode cX6_commonDivisor 24 = .ok (.istore_n 2, 1) := by decide +kernel
theorem dX6_commonDivisor_25 : decode cX6_commonDivisor 25 = .ok (.iload 5, 2) := by decide +kernel
theorem dX6_commonDivisor_27 : decode cX6_commonDivisor 27 = .ok (.istore_n 3, 1) := by decide +kernel
theorem dX6_commonDivisor_28 : decode cX6_commonDivisor 28 = .ok (.iinc 4 1, 3) := by decide +kernel
theorem dX6_commonDivisor_31 : decode cX6_commonDivisor 31 = .ok (.goto (-24), 3) := by decide +kernel
theorem dX6_commonDivisor_34 : decode cX6_commonDivisor 34 = .ok (.iload_n 2, 1) := by decide +kernel
theorem dX6_commonDivisor_35 : decode cX6_commonDivisor 35 = .ok (.ireturn, 1) := by decide +kernel
theorem dX6_hoursAsleep_0 : decode cX6_hoursAsleep 0 = .ok (.iload_n 1, 1) := by decide +kernel
theorem dX6_hoursAsleep_1 : decode cX6_hoursAsleep 1 = .ok (.bipush (-9), 2) := by decide +kernel
theorem dX6_hoursAsleep_3 : decode cX6_hoursAsleep 3 = .ok (.if_icmp .ne 5, 3) := by decide +kernel
theorem dX6_hoursAsleep_6 : decode cX6_hoursAsleep 6 = .ok (.iconst 0, 1) := by decide +kernel
theorem dX6_hoursAsleep_7 : decode cX6_hoursAsleep 7 = .ok (.ireturn, 1) := by decide +kernel
theorem dX6_hoursAsleep_8 : decode cX6_hoursAsleep 8 = .ok (.iconst 0, 1) := by decide +kernel
theorem dX6_hoursAsleep_9 : decode cX6_hoursAsleep 9 = .ok (.istore_n 3, 1) := by decide +kernel
theorem dX6_hoursAsleep_10 : decode cX6_hoursAsleep 10 = .ok (.iload_n 2, 1) := by decide +kernel
theorem dX6_hoursAsleep_11 : decode cX6_hoursAsleep 11 = .ok (.istore 4, 2) := by decide +kernel
theorem dX6_hoursAsleep_13 : decode cX6_hoursAsleep 13 = .ok (.iconst 0, 1) := by decide +kernel
theorem dX6_hoursAsleep_14 : decode cX6_hoursAsleep 14 = .ok (.istore 5, 2) := by decide +kernel
theorem dX6_hoursAsleep_16 : decode cX6_hoursAsleep 16 = .ok (.iload 5, 2) := by decide +kernel
theorem dX6_hoursAsleep_18 : decode cX6_hoursAsleep 18 = .ok (.bipush 24, 2) := by decide +kernel
theorem dX6_hoursAsleep_20 : decode cX6_hoursAsleep 20 = .ok (.if_icmp .gt 51, 3) := by decide +kernel
theorem dX6_hoursAsleep_23 : decode cX6_hoursAsleep 23 = .ok (.iload 4, 2) := by decide +kernel
theorem dX6_hoursAsleep_25 : decode cX6_hoursAsleep 25 = .ok (.bipush 40, 2) := by decide +kernel
theorem dX6_hoursAsleep_27 : decode cX6_hoursAsleep 27 = .ok (.if_icmp .lt 10, 3) := by decide +kernel
theorem dX6_hoursAsleep_30 : decode cX6_hoursAsleep 30 = .ok (.iload_n 3, 1) := by decide +kernel
theorem dX6_hoursAsleep_31 : decode cX6_hoursAsleep 31 = .ok (.iconst 1, 1) := by decide +kernel
theorem dX6_hoursAsleep_32 : decode cX6_hoursAsleep 32 = .ok (.iload 5, 2) := by decide +kernel
theorem dX6_hoursAsleep_34 : decode cX6_hoursAsleep 34 = .ok (.ishl, 1) := by decide +kernel
theorem dX6_hoursAsleep_35 : decode cX6_hoursAsleep 35 = .ok (.ior, 1) := by decide +kernel
theorem dX6_hoursAsleep_36 : decode cX6_hoursAsleep 36 = .ok (.istore_n 3, 1) := by decide +kernel
theorem dX6_hoursAsleep_37 : decode cX6_hoursAsleep 37 = .ok (.bipush 60, 2) := by decide +kernel
theorem dX6_hoursAsleep_39 : decode cX6_hoursAsleep 39 = .ok (.iload 4, 2) := by decide +kernel
theorem dX6_hoursAsleep_41 : decode cX6_hoursAsleep 41 = .ok (.aload_n 0, 1) := by decide +kernel
theorem dX6_hoursAsleep_42 : decode cX6_hoursAsleep 42 = .ok (.getfield 19, 3) := by decide +kernel
theorem dX6_hoursAsleep_45 : decode cX6_hoursAsleep 45 = .ok (.iload_n 1, 1) := by decide +kernel
theorem dX6_hoursAsleep_46 : decode cX6_hoursAsleep 46 = .ok (.aload_n 0, 1) := by decide +kernel
theorem dX6_hoursAsleep_47 : decode cX6_hoursAsleep 47 = .ok (.getfield 29, 3) := by decide +kernel
theorem dX6_hoursAsleep_50 : decode cX6_hoursAsleep 50 = .ok (.getfield 117, 3) := by decide +kernel
theorem dX6_hoursAsleep_53 : decode cX6_hoursAsleep 53 = .ok (.iload 5, 2) := by decide +kernel
theorem dX6_hoursAsleep_55 : decode cX6_hoursAsleep 55 = .ok (.iadd, 1) := by decide +kernel
theorem dX6_hoursAsleep_56 : decode cX6_hoursAsleep 56 = .ok (.invokevirtual 273, 3) := by decide +kernel
theorem dX6_hoursAsleep_59 : decode cX6_hoursAsleep 59 = .ok (.iadd, 1) := by decide +kernel
theorem dX6_hoursAsleep_60 : decode cX6_hoursAsleep 60 = .ok (.invokestatic 235, 3) := by decide +kernel
theorem dX6_hoursAsleep_63 : decode cX6_hoursAsleep 63 = .ok (.istore 4, 2) := by decide +kernel
theorem dX6_hoursAsleep_65 : decode cX6_hoursAsleep 65 = .ok (.iinc 5 1, 3) := by decide +kernel
theorem dX6_hoursAsleep_68 : decode cX6_hoursAsleep 68 = .ok (.goto (-52), 3) := by decide +kernel
theorem dX6_hoursAsleep_71 : decode cX6_hoursAsleep 71 = .ok (.iload_n 3, 1) := by decide +kernel
theorem dX6_hoursAsleep_72 : decode cX6_hoursAsleep 72 = .ok (.ireturn, 1) := by decide +kernel
theorem dX6_rateOfPost_0 : decode cX6_rateOfPost 0 = .ok (.aload_n 0, 1) := by decide +kernel
theorem dX6_rateOfPost_1 : decode cX6_rateOfPost 1 = .ok (.dup, 1) := by decide +kernel
theorem dX6_rateOfPost_2 : decode cX6_rateOfPost 2 = .ok (.getfield 263, 3) := by decide +kernel
theorem dX6_rateOfPost_5 : decode cX6_rateOfPost 5 = .ok (.lconst 1, 1) := by decide +kernel
theorem dX6_rateOfPost_6 : decode cX6_rateOfPost 6 = .ok (.ladd, 1) := by decide +kernel
theorem dX6_rateOfPost_7 : decode cX6_rateOfPost 7 = .ok (.putfield 263, 3) := by decide +kernel
theorem dX6_rateOfPost_10 : decode cX6_rateOfPost 10 = .ok (.aload_n 0, 1) := by decide +kernel
theorem dX6_rateOfPost_11 : decode cX6_rateOfPost 11 = .ok (.getfield 19, 3) := by decide +kernel
theorem dX6_rateOfPost_14 : decode cX6_rateOfPost 14 = .ok (.getfield 95, 3) := by decide +kernel
theorem dX6_rateOfPost_17 : decode cX6_rateOfPost 17 = .ok (.iload_n 1, 1) := by decide +kernel
theorem dX6_rateOfPost_18 : decode cX6_rateOfPost 18 = .ok (.iaload, 1) := by decide +kernel
theorem dX6_rateOfPost_19 : decode cX6_rateOfPost 19 = .ok (.ireturn, 1) := by decide +kernel
theorem dX6_rateOfGate_0 : decode cX6_rateOfGate 0 = .ok (.aload_n 0, 1) := by decide +kernel
theorem dX6_rateOfGate_1 : decode cX6_rateOfGate 1 = .ok (.dup, 1) := by decide +kernel
theorem dX6_rateOfGate_2 : decode cX6_rateOfGate 2 = .ok (.getfield 263, 3) := by decide +kernel
theorem dX6_rateOfGate_5 : decode cX6_rateOfGate 5 = .ok (.ldc2_w 276, 3) := by decide +kernel
theorem dX6_rateOfGate_8 : decode cX6_rateOfGate 8 = .ok (.ladd, 1) := by decide +kernel
theorem dX6_rateOfGate_9 : decode cX6_rateOfGate 9 = .ok (.putfield 263, 3) := by decide +kernel
theorem dX6_rateOfGate_12 : decode cX6_rateOfGate 12 = .ok (.aload_n 0, 1) := by decide +kernel
theorem dX6_rateOfGate_13 : decode cX6_rateOfGate 13 = .ok (.iload_n 1, 1) := by decide +kernel
theorem dX6_rateOfGate_14 : decode cX6_rateOfGate 14 = .ok (.invokevirtual 239, 3) := by decide +kernel
theorem dX6_rateOfGate_17 : decode cX6_rateOfGate 17 = .ok (.aload_n 0, 1) := by decide +kernel
theorem dX6_rateOfGate_18 : decode cX6_rateOfGate 18 = .ok (.getfield 29, 3) := by decide +kernel
theorem dX6_rateOfGate_21 : decode cX6_rateOfGate 21 = .ok (.getfield 102, 3) := by decide +kernel
theorem dX6_rateOfGate_24 : decode cX6_rateOfGate 24 = .ok (.iload_n 1, 1) := by decide +kernel
theorem dX6_rateOfGate_25 : decode cX6_rateOfGate 25 = .ok (.iaload, 1) := by decide +kernel
theorem dX6_rateOfGate_26 : decode cX6_rateOfGate 26 = .ok (.iadd, 1) := by decide +kernel
theorem dX6_rateOfGate_27 : decode cX6_rateOfGate 27 = .ok (.ireturn, 1) := by decide +kernel
theorem dX6_rateOfPump_0 : decode cX6_rateOfPump 0 = .ok (.aload_n 0, 1) := by decide +kernel
theorem dX6_rateOfPump_1 : decode cX6_rateOfPump 1 = .ok (.dup, 1) := by decide +kernel
theorem dX6_rateOfPump_2 : decode cX6_rateOfPump 2 = .ok (.getfield 263, 3) := by decide +kernel
theorem dX6_rateOfPump_5 : decode cX6_rateOfPump 5 = .ok (.ldc2_w 278, 3) := by decide +kernel
theorem dX6_rateOfPump_8 : decode cX6_rateOfPump 8 = .ok (.ladd, 1) := by decide +kernel
theorem dX6_rateOfPump_9 : decode cX6_rateOfPump 9 = .ok (.putfield 263, 3) := by decide +kernel
theorem dX6_rateOfPump_12 : decode cX6_rateOfPump 12 = .ok (.aload_n 0, 1) := by decide +kernel
theorem dX6_rateOfPump_13 : decode cX6_rateOfPump 13 = .ok (.getfield 29, 3) := by decide +kernel
theorem dX6_rateOfPump_16 : decode cX6_rateOfPump 16 = .ok (.getfield 99, 3) := by decide +kernel
theorem dX6_rateOfPump_19 : decode cX6_rateOfPump 19 = .ok (.iload_n 1, 1) := by decide +kernel
theorem dX6_rateOfPump_20 : decode cX6_rateOfPump 20 = .ok (.iaload, 1) := by decide +kernel
theorem dX6_rateOfPump_21 : decode cX6_rateOfPump 21 = .ok (.istore_n 2, 1) := by decide +kernel
theorem dX6_rateOfPump_22 : decode cX6_rateOfPump 22 = .ok (.aload_n 0, 1) := by decide +kernel
theorem dX6_rateOfPump_23 : decode cX6_rateOfPump 23 = .ok (.iload_n 1, 1) := by decide +kernel
theorem dX6_rateOfPump_24 : decode cX6_rateOfPump 24 = .ok (.invokevirtual 239, 3) := by decide +kernel
theorem dX6_rateOfPump_27 : decode cX6_rateOfPump 27 = .ok (.iload_n 2, 1) := by decide +kernel
theorem dX6_rateOfPump_28 : decode cX6_rateOfPump 28 = .ok (.bipush (-9), 2) := by decide +kernel
theorem dX6_rateOfPump_30 : decode cX6_rateOfPump 30 = .ok (.if_icmp .ne 7, 3) := by decide +kernel
theorem dX6_rateOfPump_33 : decode cX6_rateOfPump 33 = .ok (.iconst 0, 1) := by decide +kernel
theorem dX6_rateOfPump_34 : decode cX6_rateOfPump 34 = .ok (.goto 12, 3) := by decide +kernel
theorem dX6_rateOfPump_37 : decode cX6_rateOfPump 37 = .ok (.aload_n 0, 1) := by decide +kernel
theorem dX6_rateOfPump_38 : decode cX6_rateOfPump 38 = .ok (.getfield 29, 3) := by decide +kernel
theorem dX6_rateOfPump_41 : decode cX6_rateOfPump 41 = .ok (.getfield 111, 3) := by decide +kernel
theorem dX6_rateOfPump_44 : decode cX6_rateOfPump 44 = .ok (.iload_n 2, 1) := by decide +kernel
theorem dX6_rateOfPump_45 : decode cX6_rateOfPump 45 = .ok (.iaload, 1) := by decide +kernel
theorem dX6_rateOfPump_46 : decode cX6_rateOfPump 46 = .ok (.isub, 1) := by decide +kernel
theorem dX6_rateOfPump_47 : decode cX6_rateOfPump 47 = .ok (.ireturn, 1) := by decide +kernel
theorem dX6_rateOfLane_0 : decode cX6_rateOfLane 0 = .ok (.aload_n 0, 1) := by decide +kernel
theorem dX6_rateOfLane_1 : decode cX6_rateOfLane 1 = .ok (.dup, 1) := by decide +kernel
theorem dX6_rateOfLane_2 : decode cX6_rateOfLane 2 = .ok (.getfield 263, 3) := by decide +kernel
theorem dX6_rateOfLane_5 : decode cX6_rateOfLane 5 = .ok (.ldc2_w 280, 3) := by decide +kernel
theorem dX6_rateOfLane_8 : decode cX6_rateOfLane 8 = .ok (.ladd, 1) := by decide +kernel
theorem dX6_rateOfLane_9 : decode cX6_rateOfLane 9 = .ok (.putfield 263, 3) := by decide +kernel
theorem dX6_rateOfLane_12 : decode cX6_rateOfLane 12 = .ok (.iconst 2, 1) := by decide +kernel
theorem dX6_rateOfLane_13 : decode cX6_rateOfLane 13 = .ok (.aload_n 0, 1) := by decide +kernel
theorem dX6_rateOfLane_14 : decode cX6_rateOfLane 14 = .ok (.iload_n 1, 1) := by decide +kernel
theorem dX6_rateOfLane_15 : decode cX6_rateOfLane 15 = .ok (.invokevirtual 242, 3) := by decide +kernel
theorem dX6_rateOfLane_18 : decode cX6_rateOfLane 18 = .ok (.imul, 1) := by decide +kernel
theorem dX6_rateOfLane_19 : decode cX6_rateOfLane 19 = .ok (.ireturn, 1) := by decide +kernel
theorem dX6_rateOfYard_0 : decode cX6_rateOfYard 0 = .ok (.aload_n 0, 1) := by decide +kernel
theorem dX6_rateOfYard_1 : decode cX6_rateOfYard 1 = .ok (.dup, 1) := by decide +kernel
theorem dX6_rateOfYard_2 : decode cX6_rateOfYard 2 = .ok (.getfield 263, 3) := by decide +kernel
theorem dX6_rateOfYard_5 : decode cX6_rateOfYard 5 = .ok (.ldc2_w 282, 3) := by decide +kernel
theorem dX6_rateOfYard_8 : decode cX6_rateOfYard 8 = .ok (.ladd, 1) := by decide +kernel
theorem dX6_rateOfYard_9 : decode cX6_rateOfYard 9 = .ok (.putfield 263, 3) := by decide +kernel
theorem dX6_rateOfYard_12 : decode cX6_rateOfYard 12 = .ok (.aload_n 0, 1) := by decide +kernel
theorem dX6_rateOfYard_13 : decode cX6_rateOfYard 13 = .ok (.iload_n 1, 1) := by decide +kernel
theorem dX6_rateOfYard_14 : decode cX6_rateOfYard 14 = .ok (.invokevirtual 245, 3) := by decide +kernel
theorem dX6_rateOfYard_17 : decode cX6_rateOfYard 17 = .ok (.iload_n 1, 1) := by decide +kernel
theorem dX6_rateOfYard_18 : decode cX6_rateOfYard 18 = .ok (.iadd, 1) := by decide +kernel
theorem dX6_rateOfYard_19 : decode cX6_rateOfYard 19 = .ok (.ireturn, 1) := by decide +kernel
theorem dX6_rateOfTower_0 : decode cX6_rateOfTower 0 = .ok (.aload_n 0, 1) := by decide +kernel
theorem dX6_rateOfTower_1 : decode cX6_rateOfTower 1 = .ok (.dup, 1) := by decide +kernel
theorem dX6_rateOfTower_2 : decode cX6_rateOfTower 2 = .ok (.getfield 263, 3) := by decide +kernel
theorem dX6_rateOfTower_5 : decode cX6_rateOfTower 5 = .ok (.ldc2_w 284, 3) := by decide +kernel
theorem dX6_rateOfTower_8 : decode cX6_rateOfTower 8 = .ok (.ladd, 1) := by decide +kernel
theorem dX6_rateOfTower_9 : decode cX6_rateOfTower 9 = .ok (.putfield 263, 3) := by decide +kernel
theorem dX6_rateOfTower_12 : decode cX6_rateOfTower 12 = .ok (.aload_n 0, 1) := by decide +kernel
theorem dX6_rateOfTower_13 : decode cX6_rateOfTower 13 = .ok (.iload_n 1, 1) := by decide +kernel
theorem dX6_rateOfTower_14 : decode cX6_rateOfTower 14 = .ok (.invokevirtual 239, 3) := by decide +kernel
theorem dX6_rateOfTower_17 : decode cX6_rateOfTower 17 = .ok (.aload_n 0, 1) := by decide +kernel
theorem dX6_rateOfTower_18 : decode cX6_rateOfTower 18 = .ok (.getfield 19, 3) := by decide +kernel
theorem dX6_rateOfTower_21 : decode cX6_rateOfTower 21 = .ok (.iload_n 1, 1) := by decide +kernel
theorem dX6_rateOfTower_22 : decode cX6_rateOfTower 22 = .ok (.invokevirtual 91, 3) := by decide +kernel
theorem dX6_rateOfTower_25 : decode cX6_rateOfTower 25 = .ok (.invokestatic 141, 3) := by decide +kernel
theorem dX6_rateOfTower_28 : decode cX6_rateOfTower 28 = .ok (.iadd, 1) := by decide +kernel
theorem dX6_rateOfTower_29 : decode cX6_rateOfTower 29 = .ok (.ireturn, 1) := by decide +kernel
theorem dX7_init_0 : decode cX7_init 0 = .ok (.aload_n 0, 1) := by decide +kernel
theorem dX7_init_1 : decode cX7_init 1 = .ok (.invokespecial 1, 3) := by decide +kernel
theorem dX7_init_4 : decode cX7_init 4 = .ok (.aload_n 0, 1) := by decide +kernel
theorem dX7_init_5 : decode cX7_init 5 = .ok (.sipush 200, 3) := by decide +kernel
theorem dX7_init_8 : decode cX7_init 8 = .ok (.newarray .int, 2) := by decide +kernel
theorem dX7_init_10 : decode cX7_init 10 = .ok (.putfield 7, 3) := by decide +kernel
theorem dX7_init_13 : decode cX7_init 13 = .ok (.aload_n 0, 1) := by decide +kernel
theorem dX7_init_14 : decode cX7_init 14 = .ok (.bipush 8, 2) := by decide +kernel
theorem dX7_init_16 : decode cX7_init 16 = .ok (.newarray .int, 2) := by decide +kernel
theorem dX7_init_18 : decode cX7_init 18 = .ok (.putfield 13, 3) := by decide +kernel
theorem dX7_init_21 : decode cX7_init 21 = .ok (.aload_n 0, 1) := by decide +kernel
theorem dX7_init_22 : decode cX7_init 22 = .ok (.bipush 10, 2) := by decide +kernel
theorem dX7_init_24 : decode cX7_init 24 = .ok (.newarray .int, 2) := by decide +kernel
theorem dX7_init_26 : decode cX7_init 26 = .ok (.putfield 16, 3) := by decide +kernel
theorem dX7_init_29 : decode cX7_init 29 = .ok (.aload_n 0, 1) := by decide +kernel
theorem dX7_init_30 : decode cX7_init 30 = .ok (.bipush 10, 2) := by decide +kernel
theorem dX7_init_32 : decode cX7_init 32 = .ok (.newarray .int, 2) := by decide +kernel
theorem dX7_init_34 : decode cX7_init 34 = .ok (.putfield 19, 3) := by decide +kernel
theorem dX7_init_37 : decode cX7_init 37 = .ok (.aload_n 0, 1) := by decide +kernel
theorem dX7_init_38 : decode cX7_init 38 = .ok (.bipush 12, 2) := by decide +kernel
theorem dX7_init_40 : decode cX7_init 40 = .ok (.newarray .int, 2) := by decide +kernel
theorem dX7_init_42 : decode cX7_init 42 = .ok (.putfield 22, 3) := by decide +kernel
theorem dX7_init_45 : decode cX7_init 45 = .ok (.aload_n 0, 1) := by decide +kernel
theorem dX7_init_46 : decode cX7_init 46 = .ok (.bipush 48, 2) := by decide +kernel
theorem dX7_init_48 : decode cX7_init 48 = .ok (.newarray .int, 2) := by decide +kernel
theorem dX7_init_50 : decode cX7_init 50 = .ok (.putfield 25, 3) := by decide +kernel
theorem dX7_init_53 : decode cX7_init 53 = .ok (.aload_n 0, 1) := by decide +kernel
theorem dX7_init_54 : decode cX7_init 54 = .ok (.bipush 48, 2) := by decide +kernel
theorem dX7_init_56 : decode cX7_init 56 = .ok (.newarray .int, 2) := by decide +kernel
theorem dX7_init_58 : decode cX7_init 58 = .ok (.putfield 28, 3) := by decide +kernel
theorem dX7_init_61 : decode cX7_init 61 = .ok (.aload_n 0, 1) := by decide +kernel
theorem dX7_init_62 : decode cX7_init 62 = .ok (.bipush 96, 2) := by decide +kernel
theorem dX7_init_64 : decode cX7_init 64 = .ok (.newarray .int, 2) := by decide +kernel
theorem dX7_init_66 : decode cX7_init 66 = .ok (.putfield 31, 3) := by decide +kernel
theorem dX7_init_69 : decode cX7_init 69 = .ok (.aload_n 0, 1) := by decide +kernel
theorem dX7_init_70 : decode cX7_init 70 = .ok (.iconst 2, 1) := by decide +kernel
theorem dX7_init_71 : decode cX7_init 71 = .ok (.newarray .boolean, 2) := by decide +kernel
theorem dX7_init_73 : decode cX7_init 73 = .ok (.putfield 34, 3) := by decide +kernel
theorem dX7_init_76 : decode cX7_init 76 = .ok (.aload_n 0, 1) := by decide +kernel
theorem dX7_init_77 : decode cX7_init 77 = .ok (.sipush 480, 3) := by decide +kernel
theorem dX7_init_80 : decode cX7_init 80 = .ok (.newarray .int, 2) := by decide +kernel
theorem dX7_init_82 : decode cX7_init 82 = .ok (.putfield 38, 3) := by decide +kernel
theorem dX7_init_85 : decode cX7_init 85 = .ok (.aload_n 0, 1) := by decide +kernel
theorem dX7_init_86 : decode cX7_init 86 = .ok (.bipush 6, 2) := by decide +kernel
theorem dX7_init_88 : decode cX7_init 88 = .ok (.newarray .int, 2) := by decide +kernel
theorem dX7_init_90 : decode cX7_init 90 = .ok (.putfield 41, 3) := by decide +kernel
theorem dX7_init_93 : decode cX7_init 93 = .ok (.aload_n 0, 1) := by decide +kernel
theorem dX7_init_94 : decode cX7_init 94 = .ok (.bipush 6, 2) := by decide +kernel
theorem dX7_init_96 : decode cX7_init 96 = .ok (.newarray .int, 2) := by decide +kernel
theorem dX7_init_98 : decode cX7_init 98 = .ok (.putfield 44, 3) := by decide +kernel
theorem dX7_init_101 : decode cX7_init 101 = .ok (.aload_n 0, 1) := by decide +kernel
theorem dX7_init_102 : decode cX7_init 102 = .ok (.bipush 6, 2) := by decide +kernel
theorem dX7_init_104 : decode cX7_init 104 = .ok (.newarray .int, 2) := by decide +kernel
theorem dX7_init_106 : decode cX7_init 106 = .ok (.putfield 47, 3) := by decide +kernel
theorem dX7_init_109 : decode cX7_init 109 = .ok (.aload_n 0, 1) := by decide +kernel
theorem dX7_init_110 : decode cX7_init 110 = .ok (.iconst 5, 1) := by decide +kernel
theorem dX7_init_111 : decode cX7_init 111 = .ok (.newarray .int, 2) := by decide +kernel
theorem dX7_init_113 : decode cX7_init 113 = .ok (.putfield 50, 3) := by decide +kernel
theorem dX7_init_116 : decode cX7_init 116 = .ok (.aload_n 0, 1) := by decide +kernel
theorem dX7_init_117 : decode cX7_init 117 = .ok (.iconst 5, 1) := by decide +kernel
theorem dX7_init_118 : decode cX7_init 118 = .ok (.newarray .int, 2) := by decide +kernel
theorem dX7_init_120 : decode cX7_init 120 = .ok (.putfield 53, 3) := by decide +kernel
theorem dX7_init_123 : decode cX7_init 123 = .ok (.aload_n 0, 1) := by decide +kernel
theorem dX7_init_124 : decode cX7_init 124 = .ok (.getfield 13, 3) := by decide +kernel
theorem dX7_init_127 : decode cX7_init 127 = .ok (.iconst 2, 1) := by decide +kernel
theorem dX7_init_128 : decode cX7_init 128 = .ok (.iconst 2, 1) := by decide +kernel
theorem dX7_init_129 : decode cX7_init 129 = .ok (.iastore, 1) := by decide +kernel
theorem dX7_init_130 : decode cX7_init 130 = .ok (.aload_n 0, 1) := by decide +kernel
theorem dX7_init_131 : decode cX7_init 131 = .ok (.getfield 13, 3) := by decide +kernel
theorem dX7_init_134 : decode cX7_init 134 = .ok (.iconst 3, 1) := by decide +kernel
theorem dX7_init_135 : decode cX7_init 135 = .ok (.iconst 3, 1) := by decide +kernel
theorem dX7_init_136 : decode cX7_init 136 = .ok (.iastore, 1) := by decide +kernel
theorem dX7_init_137 : decode cX7_init 137 = .ok (.return_, 1) := by decide +kernel
theorem dX7_in_0 : decode cX7_in 0 = .ok (.iload_n 0, 1) := by decide +kernel
theorem dX7_in_1 : decode cX7_in 1 = .ok (.iload_n 1, 1) := by decide +kernel
theorem dX7_in_2 : decode cX7_in 2 = .ok (.if_icmp .lt 12, 3) := by decide +kernel
theorem dX7_in_5 : decode cX7_in 5 = .ok (.iload_n 0, 1) := by decide +kernel
theorem dX7_in_6 : decode cX7_in 6 = .ok (.iload_n 2, 1) := by decide +kernel
theorem dX7_in_7 : decode cX7_in 7 = .ok (.if_icmp .gt 7, 3) := by decide +kernel
theorem dX7_in_10 : decode cX7_in 10 = .ok (.iconst 1, 1) := by decide +kernel
theorem dX7_in_11 : decode cX7_in 11 = .ok (.goto 4, 3) := by decide +kernel
theorem dX7_in_14 : decode cX7_in 14 = .ok (.iconst 0, 1) := by decide +kernel
theorem dX7_in_15 : decode cX7_in 15 = .ok (.ireturn, 1) := by decide +kernel
theorem dX7_ones_0 : decode cX7_ones 0 = .ok (.iconst 0, 1) := by decide +kernel
theorem dX7_ones_1 : decode cX7_ones 1 = .ok (.istore_n 1, 1) := by decide +kernel
theorem dX7_ones_2 : decode cX7_ones 2 = .ok (.iconst 0, 1) := by decide +kernel
theorem dX7_ones_3 : decode cX7_ones 3 = .ok (.istore_n 2, 1) := by decide +kernel
theorem dX7_ones_4 : decode cX7_ones 4 = .ok (.iload_n 2, 1) := by decide +kernel
theorem dX7_ones_5 : decode cX7_ones 5 = .ok (.bipush 6, 2) := by decide +kernel
theorem dX7_ones_7 : decode cX7_ones 7 = .ok (.if_icmp .ge 17, 3) := by decide +kernel
theorem dX7_ones_10 : decode cX7_ones 10 = .ok (.iload_n 1, 1) := by decide +kernel
theorem dX7_ones_11 : decode cX7_ones 11 = .ok (.iload_n 0, 1) := by decide +kernel
theorem dX7_ones_12 : decode cX7_ones 12 = .ok (.iload_n 2, 1) := by decide +kernel
theorem dX7_ones_13 : decode cX7_ones 13 = .ok (.ishr, 1) := by decide +kernel
theorem dX7_ones_14 : decode cX7_ones 14 = .ok (.iconst 1, 1) := by decide +kernel
theorem dX7_ones_15 : decode cX7_ones 15 = .ok (.iand, 1) := by decide +kernel
theorem dX7_ones_16 : decode cX7_ones 16 = .ok (.iadd, 1) := by decide +kernel
theorem dX7_ones_17 : decode cX7_ones 17 = .ok (.istore_n 1, 1) := by decide +kernel
theorem dX7_ones_18 : decode cX7_ones 18 = .ok (.iinc 2 1, 3) := by decide +kernel
theorem dX7_ones_21 : decode cX7_ones 21 = .ok (.goto (-17), 3) := by decide +kernel
theorem dX7_ones_24 : decode cX7_ones 24 = .ok (.iload_n 1, 1) := by decide +kernel
theorem dX7_ones_25 : decode cX7_ones 25 = .ok (.ireturn, 1) := by decide +kernel
theorem dX7_type_0 : decode cX7_type 0 = .ok (.aload_n 0, 1) := by decide +kernel
theorem dX7_type_1 : decode cX7_type 1 = .ok (.iconst 0, 1) := by decide +kernel
theorem dX7_type_2 : decode cX7_type 2 = .ok (.putfield 56, 3) := by decide +kernel
theorem dX7_type_5 : decode cX7_type 5 = .ok (.iload_n 1, 1) := by decide +kernel
theorem dX7_type_6 : decode cX7_type 6 = .ok (.iconst 0, 1) := by decide +kernel
theorem dX7_type_7 : decode cX7_type 7 = .ok (.sipush 255, 3) := by decide +kernel
theorem dX7_type_10 : decode cX7_type 10 = .ok (.invokestatic 60, 3) := by decide +kernel
theorem dX7_type_13 : decode cX7_type 13 = .ok (.ifCond .ne 5, 3) := by decide +kernel
theorem dX7_type_16 : decode cX7_type 16 = .ok (.iconst (-1), 1) := by decide +kernel
theorem dX7_type_17 : decode cX7_type 17 = .ok (.ireturn, 1) := by decide +kernel
theorem dX7_type_18 : decode cX7_type 18 = .ok (.aload_n 0, 1) := by decide +kernel
theorem dX7_type_19 : decode cX7_type 19 = .ok (.getfield 64, 3) := by decide +kernel
theorem dX7_type_22 : decode cX7_type 22 = .ok (.sipush 200, 3) := by decide +kernel
theorem dX7_type_25 : decode cX7_type 25 = .ok (.if_icmp .ne 6, 3) := by decide +kernel
theorem dX7_type_28 : decode cX7_type 28 = .ok (.bipush (-3), 2) := by decide +kernel
theorem dX7_type_30 : decode cX7_type 30 = .ok (.ireturn, 1) := by decide +kernel
theorem dX7_type_31 : decode cX7_type 31 = .ok (.aload_n 0, 1) := by decide +kernel
theorem dX7_type_32 : decode cX7_type 32 = .ok (.getfield 7, 3) := by decide +kernel
theorem dX7_type_35 : decode cX7_type 35 = .ok (.aload_n 0, 1) := by decide +kernel
theorem dX7_type_36 : decode cX7_type 36 = .ok (.getfield 64, 3) := by decide +kernel
theorem dX7_type_39 : decode cX7_type 39 = .ok (.iload_n 1, 1) := by decide +kernel
theorem dX7_type_40 : decode cX7_type 40 = .ok (.iastore, 1) := by decide +kernel
theorem dX7_type_41 : decode cX7_type 41 = .ok (.aload_n 0, 1) := by decide +kernel
theorem dX7_type_42 : decode cX7_type 42 = .ok (.dup, 1) := by decide +kernel
theorem dX7_type_43 : decode cX7_type 43 = .ok (.getfield 64, 3) := by decide +kernel
theorem dX7_type_46 : decode cX7_type 46 = .ok (.iconst 1, 1) := by decide +kernel
theorem dX7_type_47 : decode cX7_type 47 = .ok (.iadd, 1) := by decide +kernel
theorem dX7_type_48 : decode cX7_type 48 = .ok (.putfield 64, 3) := by decide +kernel
theorem dX7_type_51 : decode cX7_type 51 = .ok (.aload_n 0, 1) := by decide +kernel
theorem dX7_type_52 : decode cX7_type 52 = .ok (.getfield 64, 3) := by decide +kernel
theorem dX7_type_55 : decode cX7_type 55 = .ok (.ireturn, 1) := by decide +kernel
theorem dX7_clear_0 : decode cX7_clear 0 = .ok (.aload_n 0, 1) := by decide +kernel
theorem dX7_clear_1 : decode cX7_clear 1 = .ok (.iconst 0, 1) := by decide +kernel
theorem dX7_clear_2 : decode cX7_clear 2 = .ok (.putfield 56, 3) := by decide +kernel
theorem dX7_clear_5 : decode cX7_clear 5 = .ok (.aload_n 0, 1) := by decide +kernel
theorem dX7_clear_6 : decode cX7_clear 6 = .ok (.getfield 64, 3) := by decide +kernel
theorem dX7_clear_9 : decode cX7_clear 9 = .ok (.istore_n 1, 1) := by decide +kernel
theorem dX7_clear_10 : decode cX7_clear 10 = .ok (.aload_n 0, 1) := by decide +kernel
theorem dX7_clear_11 : decode cX7_clear 11 = .ok (.iconst 0, 1) := by decide +kernel
theorem dX7_clear_12 : decode cX7_clear 12 = .ok (.putfield 64, 3) := by decide +kernel
theorem dX7_clear_15 : decode cX7_clear 15 = .ok (.iload_n 1, 1) := by decide +kernel
theorem dX7_clear_16 : decode cX7_clear 16 = .ok (.ireturn, 1) := by decide +kernel
theorem dX7_letterAt_0 : decode cX7_letterAt 0 = .ok (.iload_n 1, 1) := by decide +kernel
theorem dX7_letterAt_1 : decode cX7_letterAt 1 = .ok (.aload_n 0, 1) := by decide +kernel
theorem dX7_letterAt_2 : decode cX7_letterAt 2 = .ok (.getfield 64, 3) := by decide +kernel
theorem dX7_letterAt_5 : decode cX7_letterAt 5 = .ok (.if_icmp .ge 12, 3) := by decide +kernel
theorem dX7_letterAt_8 : decode cX7_letterAt 8 = .ok (.aload_n 0, 1) := by decide +kernel
theorem dX7_letterAt_9 : decode cX7_letterAt 9 = .ok (.getfield 7, 3) := by decide +kernel
theorem dX7_letterAt_12 : decode cX7_letterAt 12 = .ok (.iload_n 1, 1) := by decide +kernel
theorem dX7_letterAt_13 : decode cX7_letterAt 13 = .ok (.iaload, 1) := by decide +kernel
theorem dX7_letterAt_14 : decode cX7_letterAt 14 = .ok (.goto 4, 3) := by decide +kernel
theorem dX7_letterAt_17 : decode cX7_letterAt 17 = .ok (.iconst (-1), 1) := by decide +kernel
theorem dX7_letterAt_18 : decode cX7_letterAt 18 = .ok (.ireturn, 1) := by decide +kernel
theorem dX7_advances_0 : decode cX7_advances 0 = .ok (.aload_n 0, 1) := by decide +kernel
theorem dX7_advances_1 : decode cX7_advances 1 = .ok (.aload_n 0, 1) := by decide +kernel
theorem dX7_advances_2 : decode cX7_advances 2 = .ok (.getfield 67, 3) := by decide +kernel
theorem dX7_advances_5 : decode cX7_advances 5 = .ok (.invokevirtual 70, 3) := by decide +kernel
theorem dX7_advances_8 : decode cX7_advances 8 = .ok (.bipush 32, 2) := by decide +kernel
theorem dX7_advances_10 : decode cX7_advances 10 = .ok (.if_icmp .ne 16, 3) := by decide +kernel
theorem dX7_advances_13 : decode cX7_advances 13 = .ok (.aload_n 0, 1) := by decide +kernel
theorem dX7_advances_14 : decode cX7_advances 14 = .ok (.dup, 1) := by decide +kernel
theorem dX7_advances_15 : decode cX7_advances 15 = .ok (.getfield 67, 3) := by decide +kernel
theorem dX7_advances_18 : decode cX7_advances 18 = .ok (.iconst 1, 1) := by decide +kernel
theorem dX7_advances_19 : decode cX7_advances 19 = .ok (.iadd, 1) := by decide +kernel
theorem dX7_advances_20 : decode cX7_advances 20 = .ok (.putfield 67, 3) := by decide +kernel
theorem dX7_advances_23 : decode cX7_advances 23 = .ok (.goto (-23), 3) := by decide +kernel
theorem dX7_advances_26 : decode cX7_advances 26 = .ok (.aload_n 0, 1) := by decide +kernel
theorem dX7_advances_27 : decode cX7_advances 27 = .ok (.aload_n 0, 1) := by decide +kernel
theorem dX7_advances_28 : decode cX7_advances 28 = .ok (.getfield 67, 3) := by decide +kernel
theorem dX7_advances_31 : decode cX7_advances 31 = .ok (.putfield 74, 3) := by decide +kernel
theorem dX7_advances_34 : decode cX7_advances 34 = .ok (.aload_n 0, 1) := by decide +kernel
theorem dX7_advances_35 : decode cX7_advances 35 = .ok (.aload_n 0, 1) := by decide +kernel
theorem dX7_advances_36 : decode cX7_advances 36 = .ok (.getfield 67, 3) := by decide +kernel
theorem dX7_advances_39 : decode cX7_advances 39 = .ok (.invokevirtual 70, 3) := by decide +kernel
theorem dX7_advances_42 : decode cX7_advances 42 = .ok (.istore_n 1, 1) := by decide +kernel
theorem dX7_advances_43 : decode cX7_advances 43 = .ok (.iload_n 1, 1) := by decide +kernel
theorem dX7_advances_44 : decode cX7_advances 44 = .ok (.ifCond .ge 11, 3) := by decide +kernel
theorem dX7_advances_47 : decode cX7_advances 47 = .ok (.aload_n 0, 1) := by decide +kernel
theorem dX7_advances_48 : decode cX7_advances 48 = .ok (.iconst 0, 1) := by decide +kernel
theorem dX7_advances_49 : decode cX7_advances 49 = .ok (.putfield 77, 3) := by decide +kernel
theorem dX7_advances_52 : decode cX7_advances 52 = .ok (.goto 187, 3) := by decide +kernel
theorem dX7_advances_55 : decode cX7_advances 55 = .ok (.iload_n 1, 1) := by decide +kernel
theorem dX7_advances_56 : decode cX7_advances 56 = .ok (.bipush 48, 2) := by decide +kernel
theorem dX7_advances_58 : decode cX7_advances 58 = .ok (.bipush 57, 2) := by decide +kernel
theorem dX7_advances_60 : decode cX7_advances 60 = .ok (.invokestatic 60, 3) := by decide +kernel
theorem dX7_advances_63 : decode cX7_advances 63 = .ok (.ifCond .eq 118, 3) := by decide +kernel
theorem dX7_advances_66 : decode cX7_advances 66 = .ok (.aload_n 0, 1) := by decide +kernel
theorem dX7_advances_67 : decode cX7_advances 67 = .ok (.iconst 0, 1) := by decide +kernel
theorem dX7_advances_68 : decode cX7_advances 68 = .ok (.putfield 80, 3) := by decide +kernel
theorem dX7_advances_71 : decode cX7_advances 71 = .ok (.aload_n 0, 1) := by decide +kernel
theorem dX7_advances_72 : decode cX7_advances 72 = .ok (.aload_n 0, 1) := by decide +kernel
theorem dX7_advances_73 : decode cX7_advances 73 = .ok (.getfield 67, 3) := by decide +kernel
theorem dX7_advances_76 : decode cX7_advances 76 = .ok (.invokevirtual 70, 3) := by decide +kernel
theorem dX7_advances_79 : decode cX7_advances 79 = .ok (.bipush 48, 2) := by decide +kernel
theorem dX7_advances_81 : decode cX7_advances 81 = .ok (.bipush 57, 2) := by decide +kernel
theorem dX7_advances_83 : decode cX7_advances 83 = .ok (.invokestatic 60, 3) := by decide +kernel
theorem dX7_advances_86 : decode cX7_advances 86 = .ok (.ifCond .eq 55, 3) := by decide +kernel
theorem dX7_advances_89 : decode cX7_advances 89 = .ok (.aload_n 0, 1) := by decide +kernel
theorem dX7_advances_90 : decode cX7_advances 90 = .ok (.aload_n 0, 1) := by decide +kernel
theorem dX7_advances_91 : decode cX7_advances 91 = .ok (.getfield 80, 3) := by decide +kernel
theorem dX7_advances_94 : decode cX7_advances 94 = .ok (.bipush 60, 2) := by decide +kernel
theorem dX7_advances_96 : decode cX7_advances 96 = .ok (.if_icmp .le 10, 3) := by decide +kernel
theorem dX7_advances_99 : decode cX7_advances 99 = .ok (.aload_n 0, 1) := by decide +kernel
theorem dX7_advances_100 : decode cX7_advances 100 = .ok (.getfield 80, 3) := by decide +kernel
theorem dX7_advances_103 : decode cX7_advances 103 = .ok (.goto 22, 3) := by decide +kernel
theorem dX7_advances_106 : decode cX7_advances 106 = .ok (.bipush 10, 2) := by decide +kernel
theorem dX7_advances_108 : decode cX7_advances 108 = .ok (.aload_n 0, 1) := by decide +kernel
theorem dX7_advances_109 : decode cX7_advances 109 = .ok (.getfield 80, 3) := by decide +kernel
theorem dX7_advances_112 : decode cX7_advances 112 = .ok (.imul, 1) := by decide +kernel
theorem dX7_advances_113 : decode cX7_advances 113 = .ok (.aload_n 0, 1) := by decide +kernel
theorem dX7_advances_114 : decode cX7_advances 114 = .ok (.aload_n 0, 1) := by decide +kernel
theorem dX7_advances_115 : decode cX7_advances 115 = .ok (.getfield 67, 3) := by decide +kernel
theorem dX7_advances_118 : decode cX7_advances 118 = .ok (.invokevirtual 70, 3) := by decide +kernel
theorem dX7_advances_121 : decode cX7_advances 121 = .ok (.iadd, 1) := by decide +kernel
theorem dX7_advances_122 : decode cX7_advances 122 = .ok (.bipush 48, 2) := by decide +kernel
theorem dX7_advances_124 : decode cX7_advances 124 = .ok (.isub, 1) := by decide +kernel
theorem dX7_advances_125 : decode cX7_advances 125 = .ok (.putfield 80, 3) := by decide +kernel
theorem dX7_advances_128 : decode cX7_advances 128 = .ok (.aload_n 0, 1) := by decide +kernel
theorem dX7_advances_129 : decode cX7_advances 129 = .ok (.dup, 1) := by decide +kernel
theorem dX7_advances_130 : decode cX7_advances 130 = .ok (.getfield 67, 3) := by decide +kernel
theorem dX7_advances_133 : decode cX7_advances 133 = .ok (.iconst 1, 1) := by decide +kernel
theorem dX7_advances_134 : decode cX7_advances 134 = .ok (.iadd, 1) := by decide +kernel
theorem dX7_advances_135 : decode cX7_advances 135 = .ok (.putfield 67, 3) := by decide +kernel
theorem dX7_advances_138 : decode cX7_advances 138 = .ok (.goto (-67), 3) := by decide +kernel
theorem dX7_advances_141 : decode cX7_advances 141 = .ok (.aload_n 0, 1) := by decide +kernel
theorem dX7_advances_142 : decode cX7_advances 142 = .ok (.aload_n 0, 1) := by decide +kernel
theorem dX7_advances_143 : decode cX7_advances 143 = .ok (.getfield 80, 3) := by decide +kernel
theorem dX7_advances_146 : decode cX7_advances 146 = .ok (.bipush 60, 2) := by decide +kernel
theorem dX7_advances_148 : decode cX7_advances 148 = .ok (.if_icmp .gt 22, 3) := by decide +kernel
theorem dX7_advances_151 : decode cX7_advances 151 = .ok (.iload_n 1, 1) := by decide +kernel
theorem dX7_advances_152 : decode cX7_advances 152 = .ok (.bipush 48, 2) := by decide +kernel
theorem dX7_advances_154 : decode cX7_advances 154 = .ok (.if_icmp .ne 20, 3) := by decide +kernel
theorem dX7_advances_157 : decode cX7_advances 157 = .ok (.aload_n 0, 1) := by decide +kernel
theorem dX7_advances_158 : decode cX7_advances 158 = .ok (.getfield 67, 3) := by decide +kernel
theorem dX7_advances_161 : decode cX7_advances 161 = .ok (.aload_n 0, 1) := by decide +kernel
theorem dX7_advances_162 : decode cX7_advances 162 = .ok (.getfield 74, 3) := by decide +kernel
theorem dX7_advances_165 : decode cX7_advances 165 = .ok (.isub, 1) := by decide +kernel
theorem dX7_advances_166 : decode cX7_advances 166 = .ok (.iconst 1, 1) := by decide +kernel
theorem dX7_advances_167 : decode cX7_advances 167 = .ok (.if_icmp .le 7, 3) := by decide +kernel
theorem dX7_advances_170 : decode cX7_advances 170 = .ok (.iconst 4, 1) := by decide +kernel
theorem dX7_advances_171 : decode cX7_advances 171 = .ok (.goto 4, 3) := by decide +kernel
theorem dX7_advances_174 : decode cX7_advances 174 = .ok (.iconst 2, 1) := by decide +kernel
theorem dX7_advances_175 : decode cX7_advances 175 = .ok (.putfield 77, 3) := by decide +kernel
theorem dX7_advances_178 : decode cX7_advances 178 = .ok (.goto 61, 3) := by decide +kernel
theorem dX7_advances_181 : decode cX7_advances 181 = .ok (.aload_n 0, 1) := by decide +kernel
theorem dX7_advances_182 : decode cX7_advances 182 = .ok (.dup, 1) := by decide +kernel
theorem dX7_advances_183 : decode cX7_advances 183 = .ok (.getfield 67, 3) := by decide +kernel
theorem dX7_advances_186 : decode cX7_advances 186 = .ok (.iconst 1, 1) := by decide +kernel
theorem dX7_advances_187 : decode cX7_advances 187 = .ok (.iadd, 1) := by decide +kernel
theorem dX7_advances_188 : decode cX7_advances 188 = .ok (.putfield 67, 3) := by decide +kernel
theorem dX7_advances_191 : decode cX7_advances 191 = .ok (.aload_n 0, 1) := by decide +kernel
theorem dX7_advances_192 : decode cX7_advances 192 = .ok (.iload_n 1, 1) := by decide +kernel
theorem dX7_advances_193 : decode cX7_advances 193 = .ok (.putfield 80, 3) := by decide +kernel
theorem dX7_advances_196 : decode cX7_advances 196 = .ok (.aload_n 0, 1) := by decide +kernel
theorem dX7_advances_197 : decode cX7_advances 197 = .ok (.iload_n 1, 1) := by decide +kernel
theorem dX7_advances_198 : decode cX7_advances 198 = .ok (.bipush 59, 2) := by decide +kernel
theorem dX7_advances_200 : decode cX7_advances 200 = .ok (.if_icmp .ne 7, 3) := by decide +kernel
theorem dX7_advances_203 : decode cX7_advances 203 = .ok (.iconst 3, 1) := by decide +kernel
theorem dX7_advances_204 : decode cX7_advances 204 = .ok (.goto 32, 3) := by decide +kernel
theorem dX7_advances_207 : decode cX7_advances 207 = .ok (.iload_n 1, 1) := by decide +kernel
theorem dX7_advances_208 : decode cX7_advances 208 = .ok (.bipush 112, 2) := by decide +kernel
theorem dX7_advances_210 : decode cX7_advances 210 = .ok (.if_icmp .eq 21, 3) := by decide +kernel
theorem dX7_advances_213 : decode cX7_advances 213 = .ok (.iload_n 1, 1) := by decide +kernel
theorem dX7_advances_214 : decode cX7_advances 214 = .ok (.bipush 109, 2) := by decide +kernel
theorem dX7_advances_216 : decode cX7_advances 216 = .ok (.if_icmp .eq 15, 3) := by decide +kernel
theorem dX7_advances_219 : decode cX7_advances 219 = .ok (.iload_n 1, 1) := by decide +kernel
theorem dX7_advances_220 : decode cX7_advances 220 = .ok (.bipush 111, 2) := by decide +kernel
theorem dX7_advances_222 : decode cX7_advances 222 = .ok (.if_icmp .eq 9, 3) := by decide +kernel
theorem dX7_advances_225 : decode cX7_advances 225 = .ok (.iload_n 1, 1) := by decide +kernel
theorem dX7_advances_226 : decode cX7_advances 226 = .ok (.bipush 115, 2) := by decide +kernel
theorem dX7_advances_228 : decode cX7_advances 228 = .ok (.if_icmp .ne 7, 3) := by decide +kernel
theorem dX7_advances_231 : decode cX7_advances 231 = .ok (.iconst 1, 1) := by decide +kernel
theorem dX7_advances_232 : decode cX7_advances 232 = .ok (.goto 4, 3) := by decide +kernel
theorem dX7_advances_235 : decode cX7_advances 235 = .ok (.iconst 4, 1) := by decide +kernel
theorem dX7_advances_236 : decode cX7_advances 236 = .ok (.putfield 77, 3) := by decide +kernel
theorem dX7_advances_239 : decode cX7_advances 239 = .ok (.return_, 1) := by decide +kernel
theorem dX7_isWell_0 : decode cX7_isWell 0 = .ok (.aload_n 0, 1) := by decide +kernel
theorem dX7_isWell_1 : decode cX7_isWell 1 = .ok (.getfield 83, 3) := by decide +kernel
theorem dX7_isWell_4 : decode cX7_isWell 4 = .ok (.ifCond .ge 7, 3) := by decide +kernel
theorem dX7_isWell_7 : decode cX7_isWell 7 = .ok (.iconst 1, 1) := by decide +kernel
theorem dX7_isWell_8 : decode cX7_isWell 8 = .ok (.goto 4, 3) := by decide +kernel
theorem dX7_isWell_11 : decode cX7_isWell 11 = .ok (.iconst 0, 1) := by decide +kernel
theorem dX7_isWell_12 : decode cX7_isWell 12 = .ok (.ireturn, 1) := by decide +kernel
theorem dX7_takes_0 : decode cX7_takes 0 = .ok (.aload_n 0, 1) := by decide +kernel
theorem dX7_takes_1 : decode cX7_takes 1 = .ok (.invokevirtual 86, 3) := by decide +kernel
theorem dX7_takes_4 : decode cX7_takes 4 = .ok (.ifCond .ne 5, 3) := by decide +kernel
theorem dX7_takes_7 : decode cX7_takes 7 = .ok (.iconst 0, 1) := by decide +kernel
theorem dX7_takes_8 : decode cX7_takes 8 = .ok (.ireturn, 1) := by decide +kernel
theorem dX7_takes_9 : decode cX7_takes 9 = .ok (.iload_n 1, 1) := by decide +kernel
theorem dX7_takes_10 : decode cX7_takes 10 = .ok (.ifCond .ne 13, 3) := by decide +kernel
theorem dX7_takes_13 : decode cX7_takes 13 = .ok (.aload_n 0, 1) := by decide +kernel
theorem dX7_takes_14 : decode cX7_takes 14 = .ok (.aload_n 0, 1) := by decide +kernel
theorem dX7_takes_15 : decode cX7_takes 15 = .ok (.getfield 74, 3) := by decide +kernel
theorem dX7_takes_18 : decode cX7_takes 18 = .ok (.putfield 83, 3) := by decide +kernel
theorem dX7_takes_21 : decode cX7_takes 21 = .ok (.iconst 0, 1) := by decide +kernel
theorem dX7_takes_22 : decode cX7_takes 22 = .ok (.ireturn, 1) := by decide +kernel
theorem dX7_takes_23 : decode cX7_takes 23 = .ok (.aload_n 0, 1) := by decide +kernel
theorem dX7_takes_24 : decode cX7_takes 24 = .ok (.getfield 80, 3) := by decide +kernel
theorem dX7_takes_27 : decode cX7_takes 27 = .ok (.istore_n 2, 1) := by decide +kernel
theorem dX7_takes_28 : decode cX7_takes 28 = .ok (.aload_n 0, 1) := by decide +kernel
theorem dX7_takes_29 : decode cX7_takes 29 = .ok (.invokevirtual 90, 3) := by decide +kernel
theorem dX7_takes_32 : decode cX7_takes 32 = .ok (.iload_n 2, 1) := by decide +kernel
theorem dX7_takes_33 : decode cX7_takes 33 = .ok (.ireturn, 1) := by decide +kernel
theorem dX7_number_0 : decode cX7_number 0 = .ok (.aload_n 0, 1) := by decide +kernel
theorem dX7_number_1 : decode cX7_number 1 = .ok (.aload_n 0, 1) := by decide +kernel
theorem dX7_number_2 : decode cX7_number 2 = .ok (.getfield 77, 3) := by decide +kernel
theorem dX7_number_5 : decode cX7_number 5 = .ok (.iconst 2, 1) := by decide +kernel
theorem dX7_number_6 : decode cX7_number 6 = .ok (.if_icmp .ne 19, 3) := by decide +kernel
theorem dX7_number_9 : decode cX7_number 9 = .ok (.aload_n 0, 1) := by decide +kernel
theorem dX7_number_10 : decode cX7_number 10 = .ok (.getfield 80, 3) := by decide +kernel
theorem dX7_number_13 : decode cX7_number 13 = .ok (.iload_n 1, 1) := by decide +kernel
theorem dX7_number_14 : decode cX7_number 14 = .ok (.iload_n 2, 1) := by decide +kernel
theorem dX7_number_15 : decode cX7_number 15 = .ok (.invokestatic 60, 3) := by decide +kernel
theorem dX7_number_18 : decode cX7_number 18 = .ok (.ifCond .eq 7, 3) := by decide +kernel
theorem dX7_number_21 : decode cX7_number 21 = .ok (.iconst 1, 1) := by decide +kernel
theorem dX7_number_22 : decode cX7_number 22 = .ok (.goto 4, 3) := by decide +kernel
theorem dX7_number_25 : decode cX7_number 25 = .ok (.iconst 0, 1) := by decide +kernel
theorem dX7_number_26 : decode cX7_number 26 = .ok (.invokevirtual 93, 3) := by decide +kernel
theorem dX7_number_29 : decode cX7_number 29 = .ok (.ireturn, 1) := by decide +kernel
theorem dX7_mayBegin_0 : decode cX7_mayBegin 0 = .ok (.aload_n 0, 1) := by decide +kernel
theorem dX7_mayBegin_1 : decode cX7_mayBegin 1 = .ok (.getfield 80, 3) := by decide +kernel
theorem dX7_mayBegin_4 : decode cX7_mayBegin 4 = .ok (.bipush 112, 2) := by decide +kernel
theorem dX7_mayBegin_6 : decode cX7_mayBegin 6 = .ok (.if_icmp .ne 21, 3) := by decide +kernel
theorem dX7_mayBegin_9 : decode cX7_mayBegin 9 = .ok (.aload_n 0, 1) := by decide +kernel
theorem dX7_mayBegin_10 : decode cX7_mayBegin 10 = .ok (.getfield 13, 3) := by decide +kernel
theorem dX7_mayBegin_13 : decode cX7_mayBegin 13 = .ok (.iconst 4, 1) := by decide +kernel
theorem dX7_mayBegin_14 : decode cX7_mayBegin 14 = .ok (.iaload, 1) := by decide +kernel
theorem dX7_mayBegin_15 : decode cX7_mayBegin 15 = .ok (.iconst 5, 1) := by decide +kernel
theorem dX7_mayBegin_16 : decode cX7_mayBegin 16 = .ok (.if_icmp .ge 7, 3) := by decide +kernel
theorem dX7_mayBegin_19 : decode cX7_mayBegin 19 = .ok (.iconst 1, 1) := by decide +kernel
theorem dX7_mayBegin_20 : decode cX7_mayBegin 20 = .ok (.goto 75, 3) := by decide +kernel
theorem dX7_mayBegin_23 : decode cX7_mayBegin 23 = .ok (.iconst 0, 1) := by decide +kernel
theorem dX7_mayBegin_24 : decode cX7_mayBegin 24 = .ok (.goto 71, 3) := by decide +kernel
theorem dX7_mayBegin_27 : decode cX7_mayBegin 27 = .ok (.aload_n 0, 1) := by decide +kernel
theorem dX7_mayBegin_28 : decode cX7_mayBegin 28 = .ok (.getfield 80, 3) := by decide +kernel
theorem dX7_mayBegin_31 : decode cX7_mayBegin 31 = .ok (.bipush 109, 2) := by decide +kernel
theorem dX7_mayBegin_33 : decode cX7_mayBegin 33 = .ok (.if_icmp .ne 22, 3) := by decide +kernel
theorem dX7_mayBegin_36 : decode cX7_mayBegin 36 = .ok (.aload_n 0, 1) := by decide +kernel
theorem dX7_mayBegin_37 : decode cX7_mayBegin 37 = .ok (.getfield 13, 3) := by decide +kernel
theorem dX7_mayBegin_40 : decode cX7_mayBegin 40 = .ok (.iconst 5, 1) := by decide +kernel
theorem dX7_mayBegin_41 : decode cX7_mayBegin 41 = .ok (.iaload, 1) := by decide +kernel
theorem dX7_mayBegin_42 : decode cX7_mayBegin 42 = .ok (.bipush 6, 2) := by decide +kernel
theorem dX7_mayBegin_44 : decode cX7_mayBegin 44 = .ok (.if_icmp .ge 7, 3) := by decide +kernel
theorem dX7_mayBegin_47 : decode cX7_mayBegin 47 = .ok (.iconst 1, 1) := by decide +kernel
theorem dX7_mayBegin_48 : decode cX7_mayBegin 48 = .ok (.goto 47, 3) := by decide +kernel
theorem dX7_mayBegin_51 : decode cX7_mayBegin 51 = .ok (.iconst 0, 1) := by decide +kernel
theorem dX7_mayBegin_52 : decode cX7_mayBegin 52 = .ok (.goto 43, 3) := by decide +kernel
theorem dX7_mayBegin_55 : decode cX7_mayBegin 55 = .ok (.aload_n 0, 1) := by decide +kernel
theorem dX7_mayBegin_56 : decode cX7_mayBegin 56 = .ok (.getfield 80, 3) := by decide +kernel
theorem dX7_mayBegin_59 : decode cX7_mayBegin 59 = .ok (.bipush 111, 2) := by decide +kernel
theorem dX7_mayBegin_61 : decode cX7_mayBegin 61 = .ok (.if_icmp .ne 20, 3) := by decide +kernel
theorem dX7_mayBegin_64 : decode cX7_mayBegin 64 = .ok (.aload_n 0, 1) := by decide +kernel
theorem dX7_mayBegin_65 : decode cX7_mayBegin 65 = .ok (.getfield 97, 3) := by decide +kernel
theorem dX7_mayBegin_68 : decode cX7_mayBegin 68 = .ok (.iconst 1, 1) := by decide +kernel
theorem dX7_mayBegin_69 : decode cX7_mayBegin 69 = .ok (.iand, 1) := by decide +kernel
theorem dX7_mayBegin_70 : decode cX7_mayBegin 70 = .ok (.ifCond .ne 7, 3) := by decide +kernel
theorem dX7_mayBegin_73 : decode cX7_mayBegin 73 = .ok (.iconst 1, 1) := by decide +kernel
theorem dX7_mayBegin_74 : decode cX7_mayBegin 74 = .ok (.goto 21, 3) := by decide +kernel
theorem dX7_mayBegin_77 : decode cX7_mayBegin 77 = .ok (.iconst 0, 1) := by decide +kernel
theorem dX7_mayBegin_78 : decode cX7_mayBegin 78 = .ok (.goto 17, 3) := by decide +kernel
theorem dX7_mayBegin_81 : decode cX7_mayBegin 81 = .ok (.aload_n 0, 1) := by decide +kernel
theorem dX7_mayBegin_82 : decode cX7_mayBegin 82 = .ok (.getfield 97, 3) := by decide +kernel
theorem dX7_mayBegin_85 : decode cX7_mayBegin 85 = .ok (.iconst 2, 1) := by decide +kernel
theorem dX7_mayBegin_86 : decode cX7_mayBegin 86 = .ok (.iand, 1) := by decide +kernel
theorem dX7_mayBegin_87 : decode cX7_mayBegin 87 = .ok (.ifCond .ne 7, 3) := by decide +kernel
theorem dX7_mayBegin_90 : decode cX7_mayBegin 90 = .ok (.iconst 1, 1) := by decide +kernel
theorem dX7_mayBegin_91 : decode cX7_mayBegin 91 = .ok (.goto 4, 3) := by decide +kernel
theorem dX7_mayBegin_94 : decode cX7_mayBegin 94 = .ok (.iconst 0, 1) := by decide +kernel
theorem dX7_mayBegin_95 : decode cX7_mayBegin 95 = .ok (.ireturn, 1) := by decide +kernel
theorem dX7_readsItem_0 : decode cX7_readsItem 0 = .ok (.iload_n 1, 1) := by decide +kernel
theorem dX7_readsItem_1 : decode cX7_readsItem 1 = .ok (.bipush 112, 2) := by decide +kernel
theorem dX7_readsItem_3 : decode cX7_readsItem 3 = .ok (.if_icmp .ne 56, 3) := by decide +kernel
theorem dX7_readsItem_6 : decode cX7_readsItem 6 = .ok (.aload_n 0, 1) := by decide +kernel
theorem dX7_readsItem_7 : decode cX7_readsItem 7 = .ok (.getfield 16, 3) := by decide +kernel
theorem dX7_readsItem_10 : decode cX7_readsItem 10 = .ok (.iconst 5, 1) := by decide +kernel
theorem dX7_readsItem_11 : decode cX7_readsItem 11 = .ok (.aload_n 0, 1) := by decide +kernel
theorem dX7_readsItem_12 : decode cX7_readsItem 12 = .ok (.getfield 13, 3) := by decide +kernel
theorem dX7_readsItem_15 : decode cX7_readsItem 15 = .ok (.iconst 4, 1) := by decide +kernel
theorem dX7_readsItem_16 : decode cX7_readsItem 16 = .ok (.iaload, 1) := by decide +kernel
theorem dX7_readsItem_17 : decode cX7_readsItem 17 = .ok (.iadd, 1) := by decide +kernel
theorem dX7_readsItem_18 : decode cX7_readsItem 18 = .ok (.aload_n 0, 1) := by decide +kernel
theorem dX7_readsItem_19 : decode cX7_readsItem 19 = .ok (.iconst 0, 1) := by decide +kernel
theorem dX7_readsItem_20 : decode cX7_readsItem 20 = .ok (.bipush 31, 2) := by decide +kernel
theorem dX7_readsItem_22 : decode cX7_readsItem 22 = .ok (.invokevirtual 100, 3) := by decide +kernel
theorem dX7_readsItem_25 : decode cX7_readsItem 25 = .ok (.iastore, 1) := by decide +kernel
theorem dX7_readsItem_26 : decode cX7_readsItem 26 = .ok (.aload_n 0, 1) := by decide +kernel
theorem dX7_readsItem_27 : decode cX7_readsItem 27 = .ok (.getfield 19, 3) := by decide +kernel
theorem dX7_readsItem_30 : decode cX7_readsItem 30 = .ok (.iconst 5, 1) := by decide +kernel
theorem dX7_readsItem_31 : decode cX7_readsItem 31 = .ok (.aload_n 0, 1) := by decide +kernel
theorem dX7_readsItem_32 : decode cX7_readsItem 32 = .ok (.getfield 13, 3) := by decide +kernel
theorem dX7_readsItem_35 : decode cX7_readsItem 35 = .ok (.iconst 4, 1) := by decide +kernel
theorem dX7_readsItem_36 : decode cX7_readsItem 36 = .ok (.iaload, 1) := by decide +kernel
theorem dX7_readsItem_37 : decode cX7_readsItem 37 = .ok (.iadd, 1) := by decide +kernel
theorem dX7_readsItem_38 : decode cX7_readsItem 38 = .ok (.aload_n 0, 1) := by decide +kernel
theorem dX7_readsItem_39 : decode cX7_readsItem 39 = .ok (.iconst 0, 1) := by decide +kernel
theorem dX7_readsItem_40 : decode cX7_readsItem 40 = .ok (.bipush 9, 2) := by decide +kernel
theorem dX7_readsItem_42 : decode cX7_readsItem 42 = .ok (.invokevirtual 100, 3) := by decide +kernel
theorem dX7_readsItem_45 : decode cX7_readsItem 45 = .ok (.iastore, 1) := by decide +kernel
theorem dX7_readsItem_46 : decode cX7_readsItem 46 = .ok (.aload_n 0, 1) := by decide +kernel
theorem dX7_readsItem_47 : decode cX7_readsItem 47 = .ok (.getfield 13, 3) := by decide +kernel
theorem dX7_readsItem_50 : decode cX7_readsItem 50 = .ok (.iconst 4, 1) := by decide +kernel
theorem dX7_readsItem_51 : decode cX7_readsItem 51 = .ok (.dup2, 1) := by decide +kernel
theorem dX7_readsItem_52 : decode cX7_readsItem 52 = .ok (.iaload, 1) := by decide +kernel
theorem dX7_readsItem_53 : decode cX7_readsItem 53 = .ok (.iconst 1, 1) := by decide +kernel
theorem dX7_readsItem_54 : decode cX7_readsItem 54 = .ok (.iadd, 1) := by decide +kernel
theorem dX7_readsItem_55 : decode cX7_readsItem 55 = .ok (.iastore, 1) := by decide +kernel
theorem dX7_readsItem_56 : decode cX7_readsItem 56 = .ok (.goto 100, 3) := by decide +kernel
theorem dX7_readsItem_59 : decode cX7_readsItem 59 = .ok (.iload_n 1, 1) := by decide +kernel
theorem dX7_readsItem_60 : decode cX7_readsItem 60 = .ok (.bipush 109, 2) := by decide +kernel
theorem dX7_readsItem_62 : decode cX7_readsItem 62 = .ok (.if_icmp .ne 37, 3) := by decide +kernel
theorem dX7_readsItem_65 : decode cX7_readsItem 65 = .ok (.aload_n 0, 1) := by decide +kernel
theorem dX7_readsItem_66 : decode cX7_readsItem 66 = .ok (.getfield 22, 3) := by decide +kernel
theorem dX7_readsItem_69 : decode cX7_readsItem 69 = .ok (.bipush 6, 2) := by decide +kernel
theorem dX7_readsItem_71 : decode cX7_readsItem 71 = .ok (.aload_n 0, 1) := by decide +kernel
theorem dX7_readsItem_72 : decode cX7_readsItem 72 = .ok (.getfield 13, 3) := by decide +kernel
theorem dX7_readsItem_75 : decode cX7_readsItem 75 = .ok (.iconst 5, 1) := by decide +kernel
theorem dX7_readsItem_76 : decode cX7_readsItem 76 = .ok (.iaload, 1) := by decide +kernel
theorem dX7_readsItem_77 : decode cX7_readsItem 77 = .ok (.iadd, 1) := by decide +kernel
theorem dX7_readsItem_78 : decode cX7_readsItem 78 = .ok (.aload_n 0, 1) := by decide +kernel
theorem dX7_readsItem_79 : decode cX7_readsItem 79 = .ok (.iconst 0, 1) := by decide +kernel
theorem dX7_readsItem_80 : decode cX7_readsItem 80 = .ok (.bipush 60, 2) := by decide +kernel
theorem dX7_readsItem_82 : decode cX7_readsItem 82 = .ok (.invokevirtual 100, 3) := by decide +kernel
theorem dX7_readsItem_85 : decode cX7_readsItem 85 = .ok (.iastore, 1) := by decide +kernel
theorem dX7_readsItem_86 : decode cX7_readsItem 86 = .ok (.aload_n 0, 1) := by decide +kernel
theorem dX7_readsItem_87 : decode cX7_readsItem 87 = .ok (.getfield 13, 3) := by decide +kernel
theorem dX7_readsItem_90 : decode cX7_readsItem 90 = .ok (.iconst 5, 1) := by decide +kernel
theorem dX7_readsItem_91 : decode cX7_readsItem 91 = .ok (.dup2, 1) := by decide +kernel
theorem dX7_readsItem_92 : decode cX7_readsItem 92 = .ok (.iaload, 1) := by decide +kernel
theorem dX7_readsItem_93 : decode cX7_readsItem 93 = .ok (.iconst 1, 1) := by decide +kernel
theorem dX7_readsItem_94 : decode cX7_readsItem 94 = .ok (.iadd, 1) := by decide +kernel
theorem dX7_readsItem_95 : decode cX7_readsItem 95 = .ok (.iastore, 1) := by decide +kernel
theorem dX7_readsItem_96 : decode cX7_readsItem 96 = .ok (.goto 60, 3) := by decide +kernel
theorem dX7_readsItem_99 : decode cX7_readsItem 99 = .ok (.iload_n 1, 1) := by decide +kernel
theorem dX7_readsItem_100 : decode cX7_readsItem 100 = .ok (.bipush 111, 2) := by decide +kernel
theorem dX7_readsItem_102 : decode cX7_readsItem 102 = .ok (.if_icmp .ne 30, 3) := by decide +kernel
theorem dX7_readsItem_105 : decode cX7_readsItem 105 = .ok (.aload_n 0, 1) := by decide +kernel
theorem dX7_readsItem_106 : decode cX7_readsItem 106 = .ok (.getfield 13, 3) := by decide +kernel
theorem dX7_readsItem_109 : decode cX7_readsItem 109 = .ok (.bipush 6, 2) := by decide +kernel
theorem dX7_readsItem_111 : decode cX7_readsItem 111 = .ok (.aload_n 0, 1) := by decide +kernel
theorem dX7_readsItem_112 : decode cX7_readsItem 112 = .ok (.iconst 1, 1) := by decide +kernel
theorem dX7_readsItem_113 : decode cX7_readsItem 113 = .ok (.bipush 9, 2) := by decide +kernel
theorem dX7_readsItem_115 : decode cX7_readsItem 115 = .ok (.invokevirtual 100, 3) := by decide +kernel
theorem dX7_readsItem_118 : decode cX7_readsItem 118 = .ok (.iastore, 1) := by decide +kernel
theorem dX7_readsItem_119 : decode cX7_readsItem 119 = .ok (.aload_n 0, 1) := by decide +kernel
theorem dX7_readsItem_120 : decode cX7_readsItem 120 = .ok (.dup, 1) := by decide +kernel
theorem dX7_readsItem_121 : decode cX7_readsItem 121 = .ok (.getfield 97, 3) := by decide +kernel
theorem dX7_readsItem_124 : decode cX7_readsItem 124 = .ok (.iconst 1, 1) := by decide +kernel
theorem dX7_readsItem_125 : decode cX7_readsItem 125 = .ok (.ior, 1) := by decide +kernel
theorem dX7_readsItem_126 : decode cX7_readsItem 126 = .ok (.putfield 97, 3) := by decide +kernel
theorem dX7_readsItem_129 : decode cX7_readsItem 129 = .ok (.goto 27, 3) := by decide +kernel
theorem dX7_readsItem_132 : decode cX7_readsItem 132 = .ok (.aload_n 0, 1) := by decide +kernel
theorem dX7_readsItem_133 : decode cX7_readsItem 133 = .ok (.getfield 13, 3) := by decide +kernel
theorem dX7_readsItem_136 : decode cX7_readsItem 136 = .ok (.bipush 7, 2) := by decide +kernel
theorem dX7_readsItem_138 : decode cX7_readsItem 138 = .ok (.aload_n 0, 1) := by decide +kernel
theorem dX7_readsItem_139 : decode cX7_readsItem 139 = .ok (.iconst 1, 1) := by decide +kernel
theorem dX7_readsItem_140 : decode cX7_readsItem 140 = .ok (.bipush 9, 2) := by decide +kernel
theorem dX7_readsItem_142 : decode cX7_readsItem 142 = .ok (.invokevirtual 100, 3) := by decide +kernel
theorem dX7_readsItem_145 : decode cX7_readsItem 145 = .ok (.iastore, 1) := by decide +kernel
theorem dX7_readsItem_146 : decode cX7_readsItem 146 = .ok (.aload_n 0, 1) := by decide +kernel
theorem dX7_readsItem_147 : decode cX7_readsItem 147 = .ok (.dup, 1) := by decide +kernel
theorem dX7_readsItem_148 : decode cX7_readsItem 148 = .ok (.getfield 97, 3) := by decide +kernel
theorem dX7_readsItem_151 : decode cX7_readsItem 151 = .ok (.iconst 2, 1) := by decide +kernel
theorem dX7_readsItem_152 : decode cX7_readsItem 152 = .ok (.ior, 1) := by decide +kernel
theorem dX7_readsItem_153 : decode cX7_readsItem 153 = .ok (.putfield 97, 3) := by decide +kernel
theorem dX7_readsItem_156 : decode cX7_readsItem 156 = .ok (.return_, 1) := by decide +kernel
theorem dX7_depot_0 : decode cX7_depot 0 = .ok (.aload_n 0, 1) := by decide +kernel
theorem dX7_depot_1 : decode cX7_depot 1 = .ok (.iconst 0, 1) := by decide +kernel
theorem dX7_depot_2 : decode cX7_depot 2 = .ok (.putfield 56, 3) := by decide +kernel
theorem dX7_depot_5 : decode cX7_depot 5 = .ok (.aload_n 0, 1) := by decide +kernel
theorem dX7_depot_6 : decode cX7_depot 6 = .ok (.iconst (-1), 1) := by decide +kernel
theorem dX7_depot_7 : decode cX7_depot 7 = .ok (.putfield 83, 3) := by decide +kernel
theorem dX7_depot_10 : decode cX7_depot 10 = .ok (.aload_n 0, 1) := by decide +kernel
theorem dX7_depot_11 : decode cX7_depot 11 = .ok (.iconst 0, 1) := by decide +kernel
theorem dX7_depot_12 : decode cX7_depot 12 = .ok (.putfield 67, 3) := by decide +kernel
theorem dX7_depot_15 : decode cX7_depot 15 = .ok (.aload_n 0, 1) := by decide +kernel
theorem dX7_depot_16 : decode cX7_depot 16 = .ok (.iconst 0, 1) := by decide +kernel
theorem dX7_depot_17 : decode cX7_depot 17 = .ok (.putfield 97, 3) := by decide +kernel
theorem dX7_depot_20 : decode cX7_depot 20 = .ok (.aload_n 0, 1) := by decide +kernel
theorem dX7_depot_21 : decode cX7_depot 21 = .ok (.getfield 13, 3) := by decide +kernel
theorem dX7_depot_24 : decode cX7_depot 24 = .ok (.iconst 4, 1) := by decide +kernel
theorem dX7_depot_25 : decode cX7_depot 25 = .ok (.iconst 0, 1) := by decide +kernel
theorem dX7_depot_26 : decode cX7_depot 26 = .ok (.iastore, 1) := by decide +kernel
theorem dX7_depot_27 : decode cX7_depot 27 = .ok (.aload_n 0, 1) := by decide +kernel
theorem dX7_depot_28 : decode cX7_depot 28 = .ok (.getfield 13, 3) := by decide +kernel
theorem dX7_depot_31 : decode cX7_depot 31 = .ok (.iconst 5, 1) := by decide +kernel
theorem dX7_depot_32 : decode cX7_depot 32 = .ok (.iconst 0, 1) := by decide +kernel
theorem dX7_depot_33 : decode cX7_depot 33 = .ok (.iastore, 1) := by decide +kernel
theorem dX7_depot_34 : decode cX7_depot 34 = .ok (.aload_n 0, 1) := by decide +kernel
theorem dX7_depot_35 : decode cX7_depot 35 = .ok (.getfield 13, 3) := by decide +kernel
theorem dX7_depot_38 : decode cX7_depot 38 = .ok (.bipush 6, 2) := by decide +kernel
theorem dX7_depot_40 : decode cX7_depot 40 = .ok (.iconst 2, 1) := by decide +kernel
theorem dX7_depot_41 : decode cX7_depot 41 = .ok (.iastore, 1) := by decide +kernel
theorem dX7_depot_42 : decode cX7_depot 42 = .ok (.aload_n 0, 1) := by decide +kernel
theorem dX7_depot_43 : decode cX7_depot 43 = .ok (.getfield 13, 3) := by decide +kernel
theorem dX7_depot_46 : decode cX7_depot 46 = .ok (.bipush 7, 2) := by decide +kernel
theorem dX7_depot_48 : decode cX7_depot 48 = .ok (.iconst 3, 1) := by decide +kernel
theorem dX7_depot_49 : decode cX7_depot 49 = .ok (.iastore, 1) := by decide +kernel
theorem dX7_depot_50 : decode cX7_depot 50 = .ok (.iconst 0, 1) := by decide +kernel
theorem dX7_depot_51 : decode cX7_depot 51 = .ok (.istore_n 1, 1) := by decide +kernel
theorem dX7_depot_52 : decode cX7_depot 52 = .ok (.aload_n 0, 1) := by decide +kernel
theorem dX7_depot_53 : decode cX7_depot 53 = .ok (.invokevirtual 90, 3) := by decide +kernel
theorem dX7_depot_56 : decode cX7_depot 56 = .ok (.aload_n 0, 1) := by decide +kernel
theorem dX7_depot_57 : decode cX7_depot 57 = .ok (.invokevirtual 86, 3) := by decide +kernel
theorem dX7_depot_60 : decode cX7_depot 60 = .ok (.ifCond .eq 71, 3) := by decide +kernel
theorem dX7_depot_63 : decode cX7_depot 63 = .ok (.aload_n 0, 1) := by decide +kernel
theorem dX7_depot_64 : decode cX7_depot 64 = .ok (.getfield 77, 3) := by decide +kernel
theorem dX7_depot_67 : decode cX7_depot 67 = .ok (.ifCond .eq 64, 3) := by decide +kernel
theorem dX7_depot_70 : decode cX7_depot 70 = .ok (.aload_n 0, 1) := by decide +kernel
theorem dX7_depot_71 : decode cX7_depot 71 = .ok (.aload_n 0, 1) := by decide +kernel
theorem dX7_depot_72 : decode cX7_depot 72 = .ok (.getfield 77, 3) := by decide +kernel
theorem dX7_depot_75 : decode cX7_depot 75 = .ok (.iconst 1, 1) := by decide +kernel
theorem dX7_depot_76 : decode cX7_depot 76 = .ok (.if_icmp .ne 14, 3) := by decide +kernel
theorem dX7_depot_79 : decode cX7_depot 79 = .ok (.aload_n 0, 1) := by decide +kernel
theorem dX7_depot_80 : decode cX7_depot 80 = .ok (.invokevirtual 104, 3) := by decide +kernel
theorem dX7_depot_83 : decode cX7_depot 83 = .ok (.ifCond .eq 7, 3) := by decide +kernel
theorem dX7_depot_86 : decode cX7_depot 86 = .ok (.iconst 1, 1) := by decide +kernel
theorem dX7_depot_87 : decode cX7_depot 87 = .ok (.goto 4, 3) := by decide +kernel
theorem dX7_depot_90 : decode cX7_depot 90 = .ok (.iconst 0, 1) := by decide +kernel
theorem dX7_depot_91 : decode cX7_depot 91 = .ok (.invokevirtual 93, 3) := by decide +kernel
theorem dX7_depot_94 : decode cX7_depot 94 = .ok (.istore_n 2, 1) := by decide +kernel
theorem dX7_depot_95 : decode cX7_depot 95 = .ok (.aload_n 0, 1) := by decide +kernel
theorem dX7_depot_96 : decode cX7_depot 96 = .ok (.invokevirtual 86, 3) := by decide +kernel
theorem dX7_depot_99 : decode cX7_depot 99 = .ok (.ifCond .eq 8, 3) := by decide +kernel
theorem dX7_depot_102 : decode cX7_depot 102 = .ok (.aload_n 0, 1) := by decide +kernel
theorem dX7_depot_103 : decode cX7_depot 103 = .ok (.iload_n 2, 1) := by decide +kernel
theorem dX7_depot_104 : decode cX7_depot 104 = .ok (.invokevirtual 107, 3) := by decide +kernel
theorem dX7_depot_107 : decode cX7_depot 107 = .ok (.aload_n 0, 1) := by decide +kernel
theorem dX7_depot_108 : decode cX7_depot 108 = .ok (.aload_n 0, 1) := by decide +kernel
theorem dX7_depot_109 : decode cX7_depot 109 = .ok (.getfield 77, 3) := by decide +kernel
theorem dX7_depot_112 : decode cX7_depot 112 = .ok (.iconst 3, 1) := by decide +kernel
theorem dX7_depot_113 : decode cX7_depot 113 = .ok (.if_icmp .ne 7, 3) := by decide +kernel
theorem dX7_depot_116 : decode cX7_depot 116 = .ok (.iconst 1, 1) := by decide +kernel
theorem dX7_depot_117 : decode cX7_depot 117 = .ok (.goto 4, 3) := by decide +kernel
theorem dX7_depot_120 : decode cX7_depot 120 = .ok (.iconst 0, 1) := by decide +kernel
theorem dX7_depot_121 : decode cX7_depot 121 = .ok (.invokevirtual 93, 3) := by decide +kernel
theorem dX7_depot_124 : decode cX7_depot 124 = .ok (.pop, 1) := by decide +kernel
theorem dX7_depot_125 : decode cX7_depot 125 = .ok (.iinc 1 1, 3) := by decide +kernel
theorem dX7_depot_128 : decode cX7_depot 128 = .ok (.goto (-72), 3) := by decide +kernel
theorem dX7_depot_131 : decode cX7_depot 131 = .ok (.aload_n 0, 1) := by decide +kernel
theorem dX7_depot_132 : decode cX7_depot 132 = .ok (.invokevirtual 86, 3) := by decide +kernel
theorem dX7_depot_135 : decode cX7_depot 135 = .ok (.ifCond .ne 11, 3) := by decide +kernel
theorem dX7_depot_138 : decode cX7_depot 138 = .ok (.bipush (-10), 2) := by decide +kernel
theorem dX7_depot_140 : decode cX7_depot 140 = .ok (.aload_n 0, 1) := by decide +kernel
theorem dX7_depot_141 : decode cX7_depot 141 = .ok (.getfield 83, 3) := by decide +kernel
theorem dX7_depot_144 : decode cX7_depot 144 = .ok (.isub, 1) := by decide +kernel
theorem dX7_depot_145 : decode cX7_depot 145 = .ok (.ireturn, 1) := by decide +kernel
theorem dX7_depot_146 : decode cX7_depot 146 = .ok (.aload_n 0, 1) := by decide +kernel
theorem dX7_depot_147 : decode cX7_depot 147 = .ok (.invokevirtual 111, 3) := by decide +kernel
theorem dX7_depot_150 : decode cX7_depot 150 = .ok (.iload_n 1, 1) := by decide +kernel
theorem dX7_depot_151 : decode cX7_depot 151 = .ok (.ireturn, 1) := by decide +kernel
theorem dX7_settles_0 : decode cX7_settles 0 = .ok (.iconst 0, 1) := by decide +kernel
theorem dX7_settles_1 : decode cX7_settles 1 = .ok (.istore_n 1, 1) := by decide +kernel
theorem dX7_settles_2 : decode cX7_settles 2 = .ok (.iload_n 1, 1) := by decide +kernel
theorem dX7_settles_3 : decode cX7_settles 3 = .ok (.iconst 4, 1) := by decide +kernel
theorem dX7_settles_4 : decode cX7_settles 4 = .ok (.if_icmp .ge 23, 3) := by decide +kernel
theorem dX7_settles_7 : decode cX7_settles 7 = .ok (.aload_n 0, 1) := by decide +kernel
theorem dX7_settles_8 : decode cX7_settles 8 = .ok (.getfield 13, 3) := by decide +kernel
theorem dX7_settles_11 : decode cX7_settles 11 = .ok (.iload_n 1, 1) := by decide +kernel
theorem dX7_settles_12 : decode cX7_settles 12 = .ok (.aload_n 0, 1) := by decide +kernel
theorem dX7_settles_13 : decode cX7_settles 13 = .ok (.getfield 13, 3) := by decide +kernel
theorem dX7_settles_16 : decode cX7_settles 16 = .ok (.iconst 4, 1) := by decide +kernel
theorem dX7_settles_17 : decode cX7_settles 17 = .ok (.iload_n 1, 1) := by decide +kernel
theorem dX7_settles_18 : decode cX7_settles 18 = .ok (.iadd, 1) := by decide +kernel
theorem dX7_settles_19 : decode cX7_settles 19 = .ok (.iaload, 1) := by decide +kernel
theorem dX7_settles_20 : decode cX7_settles 20 = .ok (.iastore, 1) := by decide +kernel
theorem dX7_settles_21 : decode cX7_settles 21 = .ok (.iinc 1 1, 3) := by decide +kernel
theorem dX7_settles_24 : decode cX7_settles 24 = .ok (.goto (-22), 3) := by decide +kernel
theorem dX7_settles_27 : decode cX7_settles 27 = .ok (.iconst 0, 1) := by decide +kernel
theorem dX7_settles_28 : decode cX7_settles 28 = .ok (.istore_n 1, 1) := by decide +kernel
theorem dX7_settles_29 : decode cX7_settles 29 = .ok (.iload_n 1, 1) := by decide +kernel
theorem dX7_settles_30 : decode cX7_settles 30 = .ok (.aload_n 0, 1) := by decide +kernel
theorem dX7_settles_31 : decode cX7_settles 31 = .ok (.getfield 13, 3) := by decide +kernel
theorem dX7_settles_34 : decode cX7_settles 34 = .ok (.iconst 0, 1) := by decide +kernel
theorem dX7_settles_35 : decode cX7_settles 35 = .ok (.iaload, 1) := by decide +kernel
theorem dX7_settles_36 : decode cX7_settles 36 = .ok (.if_icmp .ge 54, 3) := by decide +kernel
theorem dX7_settles_39 : decode cX7_settles 39 = .ok (.aload_n 0, 1) := by decide +kernel
theorem dX7_settles_40 : decode cX7_settles 40 = .ok (.getfield 16, 3) := by decide +kernel
theorem dX7_settles_43 : decode cX7_settles 43 = .ok (.iload_n 1, 1) := by decide +kernel
theorem dX7_settles_44 : decode cX7_settles 44 = .ok (.aload_n 0, 1) := by decide +kernel
theorem dX7_settles_45 : decode cX7_settles 45 = .ok (.getfield 16, 3) := by decide +kernel
theorem dX7_settles_48 : decode cX7_settles 48 = .ok (.iconst 5, 1) := by decide +kernel
theorem dX7_settles_49 : decode cX7_settles 49 = .ok (.iload_n 1, 1) := by decide +kernel
theorem dX7_settles_50 : decode cX7_settles 50 = .ok (.iadd, 1) := by decide +kernel
theorem dX7_settles_51 : decode cX7_settles 51 = .ok (.iaload, 1) := by decide +kernel
theorem dX7_settles_52 : decode cX7_settles 52 = .ok (.iconst 1, 1) := by decide +kernel
theorem dX7_settles_53 : decode cX7_settles 53 = .ok (.aload_n 0, 1) := by decide +kernel
theorem dX7_settles_54 : decode cX7_settles 54 = .ok (.getfield 13, 3) := by decide +kernel
theorem dX7_settles_57 : decode cX7_settles 57 = .ok (.iconst 0, 1) := by decide +kernel
theorem dX7_settles_58 : decode cX7_settles 58 = .ok (.iaload, 1) := by decide +kernel
theorem dX7_settles_59 : decode cX7_settles 59 = .ok (.ishl, 1) := by decide +kernel
theorem dX7_settles_60 : decode cX7_settles 60 = .ok (.iconst 1, 1) := by decide +kernel
theorem dX7_settles_61 : decode cX7_settles 61 = .ok (.isub, 1) := by decide +kernel
theorem dX7_settles_62 : decode cX7_settles 62 = .ok (.iand, 1) := by decide +kernel
theorem dX7_settles_63 : decode cX7_settles 63 = .ok (.iconst 1, 1) := by decide +kernel
theorem dX7_settles_64 : decode cX7_settles 64 = .ok (.iload_n 1, 1) := by decide +kernel
theorem dX7_settles_65 : decode cX7_settles 65 = .ok (.ishl, 1) := by decide +kernel
theorem dX7_settles_66 : decode cX7_settles 66 = .ok (.iconst (-1), 1) := by decide +kernel
theorem dX7_settles_67 : decode cX7_settles 67 = .ok (.ixor, 1) := by decide +kernel
theorem dX7_settles_68 : decode cX7_settles 68 = .ok (.iand, 1) := by decide +kernel
theorem dX7_settles_69 : decode cX7_settles 69 = .ok (.iastore, 1) := by decide +kernel
theorem dX7_settles_70 : decode cX7_settles 70 = .ok (.aload_n 0, 1) := by decide +kernel
theorem dX7_settles_71 : decode cX7_settles 71 = .ok (.getfield 19, 3) := by decide +kernel
theorem dX7_settles_74 : decode cX7_settles 74 = .ok (.iload_n 1, 1) := by decide +kernel
theorem dX7_settles_75 : decode cX7_settles 75 = .ok (.aload_n 0, 1) := by decide +kernel
theorem dX7_settles_76 : decode cX7_settles 76 = .ok (.getfield 19, 3) := by decide +kernel
theorem dX7_settles_79 : decode cX7_settles 79 = .ok (.iconst 5, 1) := by decide +kernel
theorem dX7_settles_80 : decode cX7_settles 80 = .ok (.iload_n 1, 1) := by decide +kernel
theorem dX7_settles_81 : decode cX7_settles 81 = .ok (.iadd, 1) := by decide +kernel
theorem dX7_settles_82 : decode cX7_settles 82 = .ok (.iaload, 1) := by decide +kernel
theorem dX7_settles_83 : decode cX7_settles 83 = .ok (.iastore, 1) := by decide +kernel
theorem dX7_settles_84 : decode cX7_settles 84 = .ok (.iinc 1 1, 3) := by decide +kernel
theorem dX7_settles_87 : decode cX7_settles 87 = .ok (.goto (-58), 3) := by decide +kernel
