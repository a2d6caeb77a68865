theorem dX7_settles_90 : decode cX7_settles 90 = .ok (.iconst 0, 1) := by decide +kernel
theorem dX7_settles_91 : decode cX7_settles 91 = .ok (.istore_n 1, 1) := by decide +kernel
theorem dX7_settles_92 : decode cX7_settles 92 = .ok (.iload_n 1, 1) := by decide +kernel
theorem dX7_settles_93 : decode cX7_settles 93 = .ok (.bipush 48, 2) := by decide +kernel
theorem dX7_settles_95 : decode cX7_settles 95 = .ok (.if_icmp .ge 16, 3) := by decide +kernel
theorem dX7_settles_98 : decode cX7_settles 98 = .ok (.aload_n 0, 1) := by decide +kernel
theorem dX7_settles_99 : decode cX7_settles 99 = .ok (.getfield 25, 3) := by decide +kernel
theorem dX7_settles_102 : decode cX7_settles 102 = .ok (.iload_n 1, 1) := by decide +kernel
theorem dX7_settles_103 : decode cX7_settles 103 = .ok (.iconst 0, 1) := by decide +kernel
theorem dX7_settles_104 : decode cX7_settles 104 = .ok (.iastore, 1) := by decide +kernel
theorem dX7_settles_105 : decode cX7_settles 105 = .ok (.iinc 1 1, 3) := by decide +kernel
theorem dX7_settles_108 : decode cX7_settles 108 = .ok (.goto (-16), 3) := by decide +kernel
theorem dX7_settles_111 : decode cX7_settles 111 = .ok (.iconst 0, 1) := by decide +kernel
theorem dX7_settles_112 : decode cX7_settles 112 = .ok (.istore_n 1, 1) := by decide +kernel
theorem dX7_settles_113 : decode cX7_settles 113 = .ok (.iload_n 1, 1) := by decide +kernel
theorem dX7_settles_114 : decode cX7_settles 114 = .ok (.aload_n 0, 1) := by decide +kernel
theorem dX7_settles_115 : decode cX7_settles 115 = .ok (.getfield 13, 3) := by decide +kernel
theorem dX7_settles_118 : decode cX7_settles 118 = .ok (.iconst 1, 1) := by decide +kernel
theorem dX7_settles_119 : decode cX7_settles 119 = .ok (.iaload, 1) := by decide +kernel
theorem dX7_settles_120 : decode cX7_settles 120 = .ok (.if_icmp .ge 26, 3) := by decide +kernel
theorem dX7_settles_123 : decode cX7_settles 123 = .ok (.aload_n 0, 1) := by decide +kernel
theorem dX7_settles_124 : decode cX7_settles 124 = .ok (.getfield 25, 3) := by decide +kernel
theorem dX7_settles_127 : decode cX7_settles 127 = .ok (.iconst 1, 1) := by decide +kernel
theorem dX7_settles_128 : decode cX7_settles 128 = .ok (.iload_n 1, 1) := by decide +kernel
theorem dX7_settles_129 : decode cX7_settles 129 = .ok (.iadd, 1) := by decide +kernel
theorem dX7_settles_130 : decode cX7_settles 130 = .ok (.aload_n 0, 1) := by decide +kernel
theorem dX7_settles_131 : decode cX7_settles 131 = .ok (.getfield 22, 3) := by decide +kernel
theorem dX7_settles_134 : decode cX7_settles 134 = .ok (.bipush 6, 2) := by decide +kernel
theorem dX7_settles_136 : decode cX7_settles 136 = .ok (.iload_n 1, 1) := by decide +kernel
theorem dX7_settles_137 : decode cX7_settles 137 = .ok (.iadd, 1) := by decide +kernel
theorem dX7_settles_138 : decode cX7_settles 138 = .ok (.iaload, 1) := by decide +kernel
theorem dX7_settles_139 : decode cX7_settles 139 = .ok (.iastore, 1) := by decide +kernel
theorem dX7_settles_140 : decode cX7_settles 140 = .ok (.iinc 1 1, 3) := by decide +kernel
theorem dX7_settles_143 : decode cX7_settles 143 = .ok (.goto (-30), 3) := by decide +kernel
theorem dX7_settles_146 : decode cX7_settles 146 = .ok (.aload_n 0, 1) := by decide +kernel
theorem dX7_settles_147 : decode cX7_settles 147 = .ok (.iconst 0, 1) := by decide +kernel
theorem dX7_settles_148 : decode cX7_settles 148 = .ok (.putfield 64, 3) := by decide +kernel
theorem dX7_settles_151 : decode cX7_settles 151 = .ok (.aload_n 0, 1) := by decide +kernel
theorem dX7_settles_152 : decode cX7_settles 152 = .ok (.iconst 0, 1) := by decide +kernel
theorem dX7_settles_153 : decode cX7_settles 153 = .ok (.putfield 114, 3) := by decide +kernel
theorem dX7_settles_156 : decode cX7_settles 156 = .ok (.aload_n 0, 1) := by decide +kernel
theorem dX7_settles_157 : decode cX7_settles 157 = .ok (.iconst 0, 1) := by decide +kernel
theorem dX7_settles_158 : decode cX7_settles 158 = .ok (.putfield 117, 3) := by decide +kernel
theorem dX7_settles_161 : decode cX7_settles 161 = .ok (.aload_n 0, 1) := by decide +kernel
theorem dX7_settles_162 : decode cX7_settles 162 = .ok (.getfield 34, 3) := by decide +kernel
theorem dX7_settles_165 : decode cX7_settles 165 = .ok (.iconst 0, 1) := by decide +kernel
theorem dX7_settles_166 : decode cX7_settles 166 = .ok (.iconst 0, 1) := by decide +kernel
theorem dX7_settles_167 : decode cX7_settles 167 = .ok (.bastore, 1) := by decide +kernel
theorem dX7_settles_168 : decode cX7_settles 168 = .ok (.aload_n 0, 1) := by decide +kernel
theorem dX7_settles_169 : decode cX7_settles 169 = .ok (.getfield 34, 3) := by decide +kernel
theorem dX7_settles_172 : decode cX7_settles 172 = .ok (.iconst 1, 1) := by decide +kernel
theorem dX7_settles_173 : decode cX7_settles 173 = .ok (.iconst 0, 1) := by decide +kernel
theorem dX7_settles_174 : decode cX7_settles 174 = .ok (.bastore, 1) := by decide +kernel
theorem dX7_settles_175 : decode cX7_settles 175 = .ok (.return_, 1) := by decide +kernel
theorem dX7_isPost_0 : decode cX7_isPost 0 = .ok (.iload_n 1, 1) := by decide +kernel
theorem dX7_isPost_1 : decode cX7_isPost 1 = .ok (.iconst 0, 1) := by decide +kernel
theorem dX7_isPost_2 : decode cX7_isPost 2 = .ok (.aload_n 0, 1) := by decide +kernel
theorem dX7_isPost_3 : decode cX7_isPost 3 = .ok (.getfield 13, 3) := by decide +kernel
theorem dX7_isPost_6 : decode cX7_isPost 6 = .ok (.iconst 0, 1) := by decide +kernel
theorem dX7_isPost_7 : decode cX7_isPost 7 = .ok (.iaload, 1) := by decide +kernel
theorem dX7_isPost_8 : decode cX7_isPost 8 = .ok (.iconst 1, 1) := by decide +kernel
theorem dX7_isPost_9 : decode cX7_isPost 9 = .ok (.isub, 1) := by decide +kernel
theorem dX7_isPost_10 : decode cX7_isPost 10 = .ok (.invokestatic 60, 3) := by decide +kernel
theorem dX7_isPost_13 : decode cX7_isPost 13 = .ok (.ireturn, 1) := by decide +kernel
theorem dX7_isMan_0 : decode cX7_isMan 0 = .ok (.iload_n 1, 1) := by decide +kernel
theorem dX7_isMan_1 : decode cX7_isMan 1 = .ok (.iconst 0, 1) := by decide +kernel
theorem dX7_isMan_2 : decode cX7_isMan 2 = .ok (.aload_n 0, 1) := by decide +kernel
theorem dX7_isMan_3 : decode cX7_isMan 3 = .ok (.getfield 13, 3) := by decide +kernel
theorem dX7_isMan_6 : decode cX7_isMan 6 = .ok (.iconst 1, 1) := by decide +kernel
theorem dX7_isMan_7 : decode cX7_isMan 7 = .ok (.iaload, 1) := by decide +kernel
theorem dX7_isMan_8 : decode cX7_isMan 8 = .ok (.iconst 1, 1) := by decide +kernel
theorem dX7_isMan_9 : decode cX7_isMan 9 = .ok (.isub, 1) := by decide +kernel
theorem dX7_isMan_10 : decode cX7_isMan 10 = .ok (.invokestatic 60, 3) := by decide +kernel
theorem dX7_isMan_13 : decode cX7_isMan 13 = .ok (.ireturn, 1) := by decide +kernel
theorem dX7_manAt_0 : decode cX7_manAt 0 = .ok (.iconst 0, 1) := by decide +kernel
theorem dX7_manAt_1 : decode cX7_manAt 1 = .ok (.istore_n 3, 1) := by decide +kernel
theorem dX7_manAt_2 : decode cX7_manAt 2 = .ok (.iload_n 3, 1) := by decide +kernel
theorem dX7_manAt_3 : decode cX7_manAt 3 = .ok (.aload_n 0, 1) := by decide +kernel
theorem dX7_manAt_4 : decode cX7_manAt 4 = .ok (.getfield 13, 3) := by decide +kernel
theorem dX7_manAt_7 : decode cX7_manAt 7 = .ok (.iconst 1, 1) := by decide +kernel
theorem dX7_manAt_8 : decode cX7_manAt 8 = .ok (.iaload, 1) := by decide +kernel
theorem dX7_manAt_9 : decode cX7_manAt 9 = .ok (.if_icmp .ge 23, 3) := by decide +kernel
theorem dX7_manAt_12 : decode cX7_manAt 12 = .ok (.aload_n 1, 1) := by decide +kernel
theorem dX7_manAt_13 : decode cX7_manAt 13 = .ok (.bipush 7, 2) := by decide +kernel
theorem dX7_manAt_15 : decode cX7_manAt 15 = .ok (.iload_n 3, 1) := by decide +kernel
theorem dX7_manAt_16 : decode cX7_manAt 16 = .ok (.iadd, 1) := by decide +kernel
theorem dX7_manAt_17 : decode cX7_manAt 17 = .ok (.iaload, 1) := by decide +kernel
theorem dX7_manAt_18 : decode cX7_manAt 18 = .ok (.iload_n 2, 1) := by decide +kernel
theorem dX7_manAt_19 : decode cX7_manAt 19 = .ok (.iconst 1, 1) := by decide +kernel
theorem dX7_manAt_20 : decode cX7_manAt 20 = .ok (.iadd, 1) := by decide +kernel
theorem dX7_manAt_21 : decode cX7_manAt 21 = .ok (.if_icmp .ne 5, 3) := by decide +kernel
theorem dX7_manAt_24 : decode cX7_manAt 24 = .ok (.iload_n 3, 1) := by decide +kernel
theorem dX7_manAt_25 : decode cX7_manAt 25 = .ok (.ireturn, 1) := by decide +kernel
theorem dX7_manAt_26 : decode cX7_manAt 26 = .ok (.iinc 3 1, 3) := by decide +kernel
theorem dX7_manAt_29 : decode cX7_manAt 29 = .ok (.goto (-27), 3) := by decide +kernel
theorem dX7_manAt_32 : decode cX7_manAt 32 = .ok (.bipush (-9), 2) := by decide +kernel
theorem dX7_manAt_34 : decode cX7_manAt 34 = .ok (.ireturn, 1) := by decide +kernel
theorem dX7_isAsleep_0 : decode cX7_isAsleep 0 = .ok (.aload_n 0, 1) := by decide +kernel
theorem dX7_isAsleep_1 : decode cX7_isAsleep 1 = .ok (.bipush 7, 2) := by decide +kernel
theorem dX7_isAsleep_3 : decode cX7_isAsleep 3 = .ok (.iload_n 1, 1) := by decide +kernel
theorem dX7_isAsleep_4 : decode cX7_isAsleep 4 = .ok (.iadd, 1) := by decide +kernel
theorem dX7_isAsleep_5 : decode cX7_isAsleep 5 = .ok (.iaload, 1) := by decide +kernel
theorem dX7_isAsleep_6 : decode cX7_isAsleep 6 = .ok (.ifCond .le 17, 3) := by decide +kernel
theorem dX7_isAsleep_9 : decode cX7_isAsleep 9 = .ok (.aload_n 0, 1) := by decide +kernel
theorem dX7_isAsleep_10 : decode cX7_isAsleep 10 = .ok (.iconst 1, 1) := by decide +kernel
theorem dX7_isAsleep_11 : decode cX7_isAsleep 11 = .ok (.iload_n 1, 1) := by decide +kernel
theorem dX7_isAsleep_12 : decode cX7_isAsleep 12 = .ok (.iadd, 1) := by decide +kernel
theorem dX7_isAsleep_13 : decode cX7_isAsleep 13 = .ok (.iaload, 1) := by decide +kernel
theorem dX7_isAsleep_14 : decode cX7_isAsleep 14 = .ok (.bipush 40, 2) := by decide +kernel
theorem dX7_isAsleep_16 : decode cX7_isAsleep 16 = .ok (.if_icmp .lt 7, 3) := by decide +kernel
theorem dX7_isAsleep_19 : decode cX7_isAsleep 19 = .ok (.iconst 1, 1) := by decide +kernel
theorem dX7_isAsleep_20 : decode cX7_isAsleep 20 = .ok (.goto 4, 3) := by decide +kernel
theorem dX7_isAsleep_23 : decode cX7_isAsleep 23 = .ok (.iconst 0, 1) := by decide +kernel
theorem dX7_isAsleep_24 : decode cX7_isAsleep 24 = .ok (.ireturn, 1) := by decide +kernel
theorem dX7_post_0 : decode cX7_post 0 = .ok (.aload_n 0, 1) := by decide +kernel
theorem dX7_post_1 : decode cX7_post 1 = .ok (.iconst 0, 1) := by decide +kernel
theorem dX7_post_2 : decode cX7_post 2 = .ok (.putfield 56, 3) := by decide +kernel
theorem dX7_post_5 : decode cX7_post 5 = .ok (.aload_n 0, 1) := by decide +kernel
theorem dX7_post_6 : decode cX7_post 6 = .ok (.iload_n 1, 1) := by decide +kernel
theorem dX7_post_7 : decode cX7_post 7 = .ok (.invokevirtual 120, 3) := by decide +kernel
theorem dX7_post_10 : decode cX7_post 10 = .ok (.ifCond .eq 12, 3) := by decide +kernel
theorem dX7_post_13 : decode cX7_post 13 = .ok (.iload_n 2, 1) := by decide +kernel
theorem dX7_post_14 : decode cX7_post 14 = .ok (.iconst 0, 1) := by decide +kernel
theorem dX7_post_15 : decode cX7_post 15 = .ok (.iconst 3, 1) := by decide +kernel
theorem dX7_post_16 : decode cX7_post 16 = .ok (.invokestatic 60, 3) := by decide +kernel
theorem dX7_post_19 : decode cX7_post 19 = .ok (.ifCond .ne 5, 3) := by decide +kernel
theorem dX7_post_22 : decode cX7_post 22 = .ok (.iconst (-1), 1) := by decide +kernel
theorem dX7_post_23 : decode cX7_post 23 = .ok (.ireturn, 1) := by decide +kernel
theorem dX7_post_24 : decode cX7_post 24 = .ok (.iload_n 2, 1) := by decide +kernel
theorem dX7_post_25 : decode cX7_post 25 = .ok (.ifCond .ne 12, 3) := by decide +kernel
theorem dX7_post_28 : decode cX7_post 28 = .ok (.aload_n 0, 1) := by decide +kernel
theorem dX7_post_29 : decode cX7_post 29 = .ok (.getfield 16, 3) := by decide +kernel
theorem dX7_post_32 : decode cX7_post 32 = .ok (.iload_n 1, 1) := by decide +kernel
theorem dX7_post_33 : decode cX7_post 33 = .ok (.iaload, 1) := by decide +kernel
theorem dX7_post_34 : decode cX7_post 34 = .ok (.goto 43, 3) := by decide +kernel
theorem dX7_post_37 : decode cX7_post 37 = .ok (.iload_n 2, 1) := by decide +kernel
theorem dX7_post_38 : decode cX7_post 38 = .ok (.iconst 1, 1) := by decide +kernel
theorem dX7_post_39 : decode cX7_post 39 = .ok (.if_icmp .ne 12, 3) := by decide +kernel
theorem dX7_post_42 : decode cX7_post 42 = .ok (.aload_n 0, 1) := by decide +kernel
theorem dX7_post_43 : decode cX7_post 43 = .ok (.getfield 19, 3) := by decide +kernel
theorem dX7_post_46 : decode cX7_post 46 = .ok (.iload_n 1, 1) := by decide +kernel
theorem dX7_post_47 : decode cX7_post 47 = .ok (.iaload, 1) := by decide +kernel
theorem dX7_post_48 : decode cX7_post 48 = .ok (.goto 29, 3) := by decide +kernel
theorem dX7_post_51 : decode cX7_post 51 = .ok (.iload_n 2, 1) := by decide +kernel
theorem dX7_post_52 : decode cX7_post 52 = .ok (.iconst 2, 1) := by decide +kernel
theorem dX7_post_53 : decode cX7_post 53 = .ok (.if_icmp .ne 15, 3) := by decide +kernel
theorem dX7_post_56 : decode cX7_post 56 = .ok (.aload_n 0, 1) := by decide +kernel
theorem dX7_post_57 : decode cX7_post 57 = .ok (.aload_n 0, 1) := by decide +kernel
theorem dX7_post_58 : decode cX7_post 58 = .ok (.getfield 25, 3) := by decide +kernel
theorem dX7_post_61 : decode cX7_post 61 = .ok (.iload_n 1, 1) := by decide +kernel
theorem dX7_post_62 : decode cX7_post 62 = .ok (.invokevirtual 124, 3) := by decide +kernel
theorem dX7_post_65 : decode cX7_post 65 = .ok (.goto 12, 3) := by decide +kernel
theorem dX7_post_68 : decode cX7_post 68 = .ok (.aload_n 0, 1) := by decide +kernel
theorem dX7_post_69 : decode cX7_post 69 = .ok (.getfield 25, 3) := by decide +kernel
theorem dX7_post_72 : decode cX7_post 72 = .ok (.bipush 13, 2) := by decide +kernel
theorem dX7_post_74 : decode cX7_post 74 = .ok (.iload_n 1, 1) := by decide +kernel
theorem dX7_post_75 : decode cX7_post 75 = .ok (.iadd, 1) := by decide +kernel
theorem dX7_post_76 : decode cX7_post 76 = .ok (.iaload, 1) := by decide +kernel
theorem dX7_post_77 : decode cX7_post 77 = .ok (.ireturn, 1) := by decide +kernel
theorem dX7_man_0 : decode cX7_man 0 = .ok (.aload_n 0, 1) := by decide +kernel
theorem dX7_man_1 : decode cX7_man 1 = .ok (.iconst 0, 1) := by decide +kernel
theorem dX7_man_2 : decode cX7_man 2 = .ok (.putfield 56, 3) := by decide +kernel
theorem dX7_man_5 : decode cX7_man 5 = .ok (.aload_n 0, 1) := by decide +kernel
theorem dX7_man_6 : decode cX7_man 6 = .ok (.iload_n 1, 1) := by decide +kernel
theorem dX7_man_7 : decode cX7_man 7 = .ok (.invokevirtual 128, 3) := by decide +kernel
theorem dX7_man_10 : decode cX7_man 10 = .ok (.ifCond .eq 12, 3) := by decide +kernel
theorem dX7_man_13 : decode cX7_man 13 = .ok (.iload_n 2, 1) := by decide +kernel
theorem dX7_man_14 : decode cX7_man 14 = .ok (.iconst 0, 1) := by decide +kernel
theorem dX7_man_15 : decode cX7_man 15 = .ok (.iconst 2, 1) := by decide +kernel
theorem dX7_man_16 : decode cX7_man 16 = .ok (.invokestatic 60, 3) := by decide +kernel
theorem dX7_man_19 : decode cX7_man 19 = .ok (.ifCond .ne 5, 3) := by decide +kernel
theorem dX7_man_22 : decode cX7_man 22 = .ok (.iconst (-1), 1) := by decide +kernel
theorem dX7_man_23 : decode cX7_man 23 = .ok (.ireturn, 1) := by decide +kernel
theorem dX7_man_24 : decode cX7_man 24 = .ok (.iload_n 2, 1) := by decide +kernel
theorem dX7_man_25 : decode cX7_man 25 = .ok (.ifCond .ne 14, 3) := by decide +kernel
theorem dX7_man_28 : decode cX7_man 28 = .ok (.aload_n 0, 1) := by decide +kernel
theorem dX7_man_29 : decode cX7_man 29 = .ok (.getfield 25, 3) := by decide +kernel
theorem dX7_man_32 : decode cX7_man 32 = .ok (.iconst 1, 1) := by decide +kernel
theorem dX7_man_33 : decode cX7_man 33 = .ok (.iload_n 1, 1) := by decide +kernel
theorem dX7_man_34 : decode cX7_man 34 = .ok (.iadd, 1) := by decide +kernel
theorem dX7_man_35 : decode cX7_man 35 = .ok (.iaload, 1) := by decide +kernel
theorem dX7_man_36 : decode cX7_man 36 = .ok (.goto 55, 3) := by decide +kernel
theorem dX7_man_39 : decode cX7_man 39 = .ok (.iload_n 2, 1) := by decide +kernel
theorem dX7_man_40 : decode cX7_man 40 = .ok (.iconst 1, 1) := by decide +kernel
theorem dX7_man_41 : decode cX7_man 41 = .ok (.if_icmp .ne 34, 3) := by decide +kernel
theorem dX7_man_44 : decode cX7_man 44 = .ok (.aload_n 0, 1) := by decide +kernel
theorem dX7_man_45 : decode cX7_man 45 = .ok (.getfield 25, 3) := by decide +kernel
theorem dX7_man_48 : decode cX7_man 48 = .ok (.bipush 7, 2) := by decide +kernel
theorem dX7_man_50 : decode cX7_man 50 = .ok (.iload_n 1, 1) := by decide +kernel
theorem dX7_man_51 : decode cX7_man 51 = .ok (.iadd, 1) := by decide +kernel
theorem dX7_man_52 : decode cX7_man 52 = .ok (.iaload, 1) := by decide +kernel
theorem dX7_man_53 : decode cX7_man 53 = .ok (.ifCond .ne 8, 3) := by decide +kernel
theorem dX7_man_56 : decode cX7_man 56 = .ok (.bipush (-9), 2) := by decide +kernel
theorem dX7_man_58 : decode cX7_man 58 = .ok (.goto 33, 3) := by decide +kernel
theorem dX7_man_61 : decode cX7_man 61 = .ok (.aload_n 0, 1) := by decide +kernel
theorem dX7_man_62 : decode cX7_man 62 = .ok (.getfield 25, 3) := by decide +kernel
theorem dX7_man_65 : decode cX7_man 65 = .ok (.bipush 7, 2) := by decide +kernel
theorem dX7_man_67 : decode cX7_man 67 = .ok (.iload_n 1, 1) := by decide +kernel
theorem dX7_man_68 : decode cX7_man 68 = .ok (.iadd, 1) := by decide +kernel
theorem dX7_man_69 : decode cX7_man 69 = .ok (.iaload, 1) := by decide +kernel
theorem dX7_man_70 : decode cX7_man 70 = .ok (.iconst 1, 1) := by decide +kernel
theorem dX7_man_71 : decode cX7_man 71 = .ok (.isub, 1) := by decide +kernel
theorem dX7_man_72 : decode cX7_man 72 = .ok (.goto 19, 3) := by decide +kernel
theorem dX7_man_75 : decode cX7_man 75 = .ok (.aload_n 0, 1) := by decide +kernel
theorem dX7_man_76 : decode cX7_man 76 = .ok (.getfield 25, 3) := by decide +kernel
theorem dX7_man_79 : decode cX7_man 79 = .ok (.iload_n 1, 1) := by decide +kernel
theorem dX7_man_80 : decode cX7_man 80 = .ok (.invokestatic 131, 3) := by decide +kernel
theorem dX7_man_83 : decode cX7_man 83 = .ok (.ifCond .eq 7, 3) := by decide +kernel
theorem dX7_man_86 : decode cX7_man 86 = .ok (.iconst 1, 1) := by decide +kernel
theorem dX7_man_87 : decode cX7_man 87 = .ok (.goto 4, 3) := by decide +kernel
theorem dX7_man_90 : decode cX7_man 90 = .ok (.iconst 0, 1) := by decide +kernel
theorem dX7_man_91 : decode cX7_man 91 = .ok (.ireturn, 1) := by decide +kernel
theorem dX7_standing_0 : decode cX7_standing 0 = .ok (.iconst 0, 1) := by decide +kernel
theorem dX7_standing_1 : decode cX7_standing 1 = .ok (.istore_n 2, 1) := by decide +kernel
theorem dX7_standing_2 : decode cX7_standing 2 = .ok (.iconst 0, 1) := by decide +kernel
theorem dX7_standing_3 : decode cX7_standing 3 = .ok (.istore_n 3, 1) := by decide +kernel
theorem dX7_standing_4 : decode cX7_standing 4 = .ok (.iload_n 3, 1) := by decide +kernel
theorem dX7_standing_5 : decode cX7_standing 5 = .ok (.aload_n 0, 1) := by decide +kernel
theorem dX7_standing_6 : decode cX7_standing 6 = .ok (.getfield 13, 3) := by decide +kernel
theorem dX7_standing_9 : decode cX7_standing 9 = .ok (.iconst 1, 1) := by decide +kernel
theorem dX7_standing_10 : decode cX7_standing 10 = .ok (.iaload, 1) := by decide +kernel
theorem dX7_standing_11 : decode cX7_standing 11 = .ok (.if_icmp .ge 35, 3) := by decide +kernel
theorem dX7_standing_14 : decode cX7_standing 14 = .ok (.iload_n 2, 1) := by decide +kernel
theorem dX7_standing_15 : decode cX7_standing 15 = .ok (.aload_n 1, 1) := by decide +kernel
theorem dX7_standing_16 : decode cX7_standing 16 = .ok (.bipush 7, 2) := by decide +kernel
theorem dX7_standing_18 : decode cX7_standing 18 = .ok (.iload_n 3, 1) := by decide +kernel
theorem dX7_standing_19 : decode cX7_standing 19 = .ok (.iadd, 1) := by decide +kernel
theorem dX7_standing_20 : decode cX7_standing 20 = .ok (.iaload, 1) := by decide +kernel
theorem dX7_standing_21 : decode cX7_standing 21 = .ok (.ifCond .le 16, 3) := by decide +kernel
theorem dX7_standing_24 : decode cX7_standing 24 = .ok (.iconst 1, 1) := by decide +kernel
theorem dX7_standing_25 : decode cX7_standing 25 = .ok (.aload_n 1, 1) := by decide +kernel
theorem dX7_standing_26 : decode cX7_standing 26 = .ok (.bipush 7, 2) := by decide +kernel
theorem dX7_standing_28 : decode cX7_standing 28 = .ok (.iload_n 3, 1) := by decide +kernel
theorem dX7_standing_29 : decode cX7_standing 29 = .ok (.iadd, 1) := by decide +kernel
theorem dX7_standing_30 : decode cX7_standing 30 = .ok (.iaload, 1) := by decide +kernel
theorem dX7_standing_31 : decode cX7_standing 31 = .ok (.iconst 1, 1) := by decide +kernel
theorem dX7_standing_32 : decode cX7_standing 32 = .ok (.isub, 1) := by decide +kernel
theorem dX7_standing_33 : decode cX7_standing 33 = .ok (.ishl, 1) := by decide +kernel
theorem dX7_standing_34 : decode cX7_standing 34 = .ok (.goto 4, 3) := by decide +kernel
theorem dX7_standing_37 : decode cX7_standing 37 = .ok (.iconst 0, 1) := by decide +kernel
theorem dX7_standing_38 : decode cX7_standing 38 = .ok (.ior, 1) := by decide +kernel
theorem dX7_standing_39 : decode cX7_standing 39 = .ok (.istore_n 2, 1) := by decide +kernel
theorem dX7_standing_40 : decode cX7_standing 40 = .ok (.iinc 3 1, 3) := by decide +kernel
theorem dX7_standing_43 : decode cX7_standing 43 = .ok (.goto (-39), 3) := by decide +kernel
theorem dX7_standing_46 : decode cX7_standing 46 = .ok (.iload_n 2, 1) := by decide +kernel
theorem dX7_standing_47 : decode cX7_standing 47 = .ok (.ireturn, 1) := by decide +kernel
theorem dX7_asleep_0 : decode cX7_asleep 0 = .ok (.iconst 0, 1) := by decide +kernel
theorem dX7_asleep_1 : decode cX7_asleep 1 = .ok (.istore_n 2, 1) := by decide +kernel
theorem dX7_asleep_2 : decode cX7_asleep 2 = .ok (.iconst 0, 1) := by decide +kernel
theorem dX7_asleep_3 : decode cX7_asleep 3 = .ok (.istore_n 3, 1) := by decide +kernel
theorem dX7_asleep_4 : decode cX7_asleep 4 = .ok (.iload_n 3, 1) := by decide +kernel
theorem dX7_asleep_5 : decode cX7_asleep 5 = .ok (.aload_n 0, 1) := by decide +kernel
theorem dX7_asleep_6 : decode cX7_asleep 6 = .ok (.getfield 13, 3) := by decide +kernel
theorem dX7_asleep_9 : decode cX7_asleep 9 = .ok (.iconst 1, 1) := by decide +kernel
theorem dX7_asleep_10 : decode cX7_asleep 10 = .ok (.iaload, 1) := by decide +kernel
theorem dX7_asleep_11 : decode cX7_asleep 11 = .ok (.if_icmp .ge 34, 3) := by decide +kernel
theorem dX7_asleep_14 : decode cX7_asleep 14 = .ok (.iload_n 2, 1) := by decide +kernel
theorem dX7_asleep_15 : decode cX7_asleep 15 = .ok (.aload_n 1, 1) := by decide +kernel
theorem dX7_asleep_16 : decode cX7_asleep 16 = .ok (.iload_n 3, 1) := by decide +kernel
theorem dX7_asleep_17 : decode cX7_asleep 17 = .ok (.invokestatic 131, 3) := by decide +kernel
theorem dX7_asleep_20 : decode cX7_asleep 20 = .ok (.ifCond .eq 16, 3) := by decide +kernel
theorem dX7_asleep_23 : decode cX7_asleep 23 = .ok (.iconst 1, 1) := by decide +kernel
theorem dX7_asleep_24 : decode cX7_asleep 24 = .ok (.aload_n 1, 1) := by decide +kernel
theorem dX7_asleep_25 : decode cX7_asleep 25 = .ok (.bipush 7, 2) := by decide +kernel
theorem dX7_asleep_27 : decode cX7_asleep 27 = .ok (.iload_n 3, 1) := by decide +kernel
theorem dX7_asleep_28 : decode cX7_asleep 28 = .ok (.iadd, 1) := by decide +kernel
theorem dX7_asleep_29 : decode cX7_asleep 29 = .ok (.iaload, 1) := by decide +kernel
theorem dX7_asleep_30 : decode cX7_asleep 30 = .ok (.iconst 1, 1) := by decide +kernel
theorem dX7_asleep_31 : decode cX7_asleep 31 = .ok (.isub, 1) := by decide +kernel
theorem dX7_asleep_32 : decode cX7_asleep 32 = .ok (.ishl, 1) := by decide +kernel
theorem dX7_asleep_33 : decode cX7_asleep 33 = .ok (.goto 4, 3) := by decide +kernel
theorem dX7_asleep_36 : decode cX7_asleep 36 = .ok (.iconst 0, 1) := by decide +kernel
theorem dX7_asleep_37 : decode cX7_asleep 37 = .ok (.ior, 1) := by decide +kernel
theorem dX7_asleep_38 : decode cX7_asleep 38 = .ok (.istore_n 2, 1) := by decide +kernel
theorem dX7_asleep_39 : decode cX7_asleep 39 = .ok (.iinc 3 1, 3) := by decide +kernel
theorem dX7_asleep_42 : decode cX7_asleep 42 = .ok (.goto (-38), 3) := by decide +kernel
theorem dX7_asleep_45 : decode cX7_asleep 45 = .ok (.iload_n 2, 1) := by decide +kernel
theorem dX7_asleep_46 : decode cX7_asleep 46 = .ok (.ireturn, 1) := by decide +kernel
theorem dX7_watched_0 : decode cX7_watched 0 = .ok (.iload_n 1, 1) := by decide +kernel
theorem dX7_watched_1 : decode cX7_watched 1 = .ok (.istore_n 2, 1) := by decide +kernel
theorem dX7_watched_2 : decode cX7_watched 2 = .ok (.iconst 0, 1) := by decide +kernel
theorem dX7_watched_3 : decode cX7_watched 3 = .ok (.istore_n 3, 1) := by decide +kernel
theorem dX7_watched_4 : decode cX7_watched 4 = .ok (.iload_n 3, 1) := by decide +kernel
theorem dX7_watched_5 : decode cX7_watched 5 = .ok (.aload_n 0, 1) := by decide +kernel
theorem dX7_watched_6 : decode cX7_watched 6 = .ok (.getfield 13, 3) := by decide +kernel
theorem dX7_watched_9 : decode cX7_watched 9 = .ok (.iconst 0, 1) := by decide +kernel
theorem dX7_watched_10 : decode cX7_watched 10 = .ok (.iaload, 1) := by decide +kernel
theorem dX7_watched_11 : decode cX7_watched 11 = .ok (.if_icmp .ge 31, 3) := by decide +kernel
theorem dX7_watched_14 : decode cX7_watched 14 = .ok (.iload_n 2, 1) := by decide +kernel
theorem dX7_watched_15 : decode cX7_watched 15 = .ok (.iload_n 1, 1) := by decide +kernel
theorem dX7_watched_16 : decode cX7_watched 16 = .ok (.iload_n 3, 1) := by decide +kernel
theorem dX7_watched_17 : decode cX7_watched 17 = .ok (.ishr, 1) := by decide +kernel
theorem dX7_watched_18 : decode cX7_watched 18 = .ok (.iconst 1, 1) := by decide +kernel
theorem dX7_watched_19 : decode cX7_watched 19 = .ok (.iand, 1) := by decide +kernel
theorem dX7_watched_20 : decode cX7_watched 20 = .ok (.iconst 1, 1) := by decide +kernel
theorem dX7_watched_21 : decode cX7_watched 21 = .ok (.if_icmp .ne 12, 3) := by decide +kernel
theorem dX7_watched_24 : decode cX7_watched 24 = .ok (.aload_n 0, 1) := by decide +kernel
theorem dX7_watched_25 : decode cX7_watched 25 = .ok (.getfield 16, 3) := by decide +kernel
theorem dX7_watched_28 : decode cX7_watched 28 = .ok (.iload_n 3, 1) := by decide +kernel
theorem dX7_watched_29 : decode cX7_watched 29 = .ok (.iaload, 1) := by decide +kernel
theorem dX7_watched_30 : decode cX7_watched 30 = .ok (.goto 4, 3) := by decide +kernel
theorem dX7_watched_33 : decode cX7_watched 33 = .ok (.iconst 0, 1) := by decide +kernel
theorem dX7_watched_34 : decode cX7_watched 34 = .ok (.ior, 1) := by decide +kernel
theorem dX7_watched_35 : decode cX7_watched 35 = .ok (.istore_n 2, 1) := by decide +kernel
theorem dX7_watched_36 : decode cX7_watched 36 = .ok (.iinc 3 1, 3) := by decide +kernel
theorem dX7_watched_39 : decode cX7_watched 39 = .ok (.goto (-35), 3) := by decide +kernel
theorem dX7_watched_42 : decode cX7_watched 42 = .ok (.iload_n 2, 1) := by decide +kernel
theorem dX7_watched_43 : decode cX7_watched 43 = .ok (.ireturn, 1) := by decide +kernel
theorem dX7_watchedIn_0 : decode cX7_watchedIn 0 = .ok (.aload_n 0, 1) := by decide +kernel
theorem dX7_watchedIn_1 : decode cX7_watchedIn 1 = .ok (.aload_n 0, 1) := by decide +kernel
theorem dX7_watchedIn_2 : decode cX7_watchedIn 2 = .ok (.aload_n 1, 1) := by decide +kernel
theorem dX7_watchedIn_3 : decode cX7_watchedIn 3 = .ok (.invokevirtual 135, 3) := by decide +kernel
theorem dX7_watchedIn_6 : decode cX7_watchedIn 6 = .ok (.aload_n 0, 1) := by decide +kernel
theorem dX7_watchedIn_7 : decode cX7_watchedIn 7 = .ok (.aload_n 1, 1) := by decide +kernel
theorem dX7_watchedIn_8 : decode cX7_watchedIn 8 = .ok (.invokevirtual 139, 3) := by decide +kernel
theorem dX7_watchedIn_11 : decode cX7_watchedIn 11 = .ok (.iconst (-1), 1) := by decide +kernel
theorem dX7_watchedIn_12 : decode cX7_watchedIn 12 = .ok (.ixor, 1) := by decide +kernel
theorem dX7_watchedIn_13 : decode cX7_watchedIn 13 = .ok (.iand, 1) := by decide +kernel
theorem dX7_watchedIn_14 : decode cX7_watchedIn 14 = .ok (.invokevirtual 142, 3) := by decide +kernel
theorem dX7_watchedIn_17 : decode cX7_watchedIn 17 = .ok (.ireturn, 1) := by decide +kernel
theorem dX7_now_0 : decode cX7_now 0 = .ok (.aload_n 0, 1) := by decide +kernel
theorem dX7_now_1 : decode cX7_now 1 = .ok (.iconst 0, 1) := by decide +kernel
theorem dX7_now_2 : decode cX7_now 2 = .ok (.putfield 56, 3) := by decide +kernel
theorem dX7_now_5 : decode cX7_now 5 = .ok (.iload_n 1, 1) := by decide +kernel
theorem dX7_now_6 : decode cX7_now 6 = .ok (.iconst 0, 1) := by decide +kernel
theorem dX7_now_7 : decode cX7_now 7 = .ok (.iconst 4, 1) := by decide +kernel
theorem dX7_now_8 : decode cX7_now 8 = .ok (.invokestatic 60, 3) := by decide +kernel
theorem dX7_now_11 : decode cX7_now 11 = .ok (.ifCond .ne 5, 3) := by decide +kernel
theorem dX7_now_14 : decode cX7_now 14 = .ok (.iconst (-1), 1) := by decide +kernel
theorem dX7_now_15 : decode cX7_now 15 = .ok (.ireturn, 1) := by decide +kernel
theorem dX7_now_16 : decode cX7_now 16 = .ok (.iload_n 1, 1) := by decide +kernel
theorem dX7_now_17 : decode cX7_now 17 = .ok (.iconst 2, 1) := by decide +kernel
theorem dX7_now_18 : decode cX7_now 18 = .ok (.if_icmp .ge 25, 3) := by decide +kernel
theorem dX7_now_21 : decode cX7_now 21 = .ok (.iload_n 1, 1) := by decide +kernel
theorem dX7_now_22 : decode cX7_now 22 = .ok (.ifCond .ne 12, 3) := by decide +kernel
theorem dX7_now_25 : decode cX7_now 25 = .ok (.aload_n 0, 1) := by decide +kernel
theorem dX7_now_26 : decode cX7_now 26 = .ok (.getfield 25, 3) := by decide +kernel
theorem dX7_now_29 : decode cX7_now 29 = .ok (.iconst 0, 1) := by decide +kernel
theorem dX7_now_30 : decode cX7_now 30 = .ok (.iaload, 1) := by decide +kernel
theorem dX7_now_31 : decode cX7_now 31 = .ok (.goto 11, 3) := by decide +kernel
theorem dX7_now_34 : decode cX7_now 34 = .ok (.aload_n 0, 1) := by decide +kernel
theorem dX7_now_35 : decode cX7_now 35 = .ok (.aload_n 0, 1) := by decide +kernel
theorem dX7_now_36 : decode cX7_now 36 = .ok (.getfield 25, 3) := by decide +kernel
theorem dX7_now_39 : decode cX7_now 39 = .ok (.invokevirtual 135, 3) := by decide +kernel
theorem dX7_now_42 : decode cX7_now 42 = .ok (.ireturn, 1) := by decide +kernel
theorem dX7_now_43 : decode cX7_now 43 = .ok (.iload_n 1, 1) := by decide +kernel
theorem dX7_now_44 : decode cX7_now 44 = .ok (.iconst 2, 1) := by decide +kernel
theorem dX7_now_45 : decode cX7_now 45 = .ok (.if_icmp .ne 14, 3) := by decide +kernel
theorem dX7_now_48 : decode cX7_now 48 = .ok (.aload_n 0, 1) := by decide +kernel
theorem dX7_now_49 : decode cX7_now 49 = .ok (.aload_n 0, 1) := by decide +kernel
theorem dX7_now_50 : decode cX7_now 50 = .ok (.getfield 25, 3) := by decide +kernel
theorem dX7_now_53 : decode cX7_now 53 = .ok (.invokevirtual 139, 3) := by decide +kernel
theorem dX7_now_56 : decode cX7_now 56 = .ok (.goto 23, 3) := by decide +kernel
theorem dX7_now_59 : decode cX7_now 59 = .ok (.iload_n 1, 1) := by decide +kernel
theorem dX7_now_60 : decode cX7_now 60 = .ok (.iconst 3, 1) := by decide +kernel
theorem dX7_now_61 : decode cX7_now 61 = .ok (.if_icmp .ne 14, 3) := by decide +kernel
theorem dX7_now_64 : decode cX7_now 64 = .ok (.aload_n 0, 1) := by decide +kernel
theorem dX7_now_65 : decode cX7_now 65 = .ok (.aload_n 0, 1) := by decide +kernel
theorem dX7_now_66 : decode cX7_now 66 = .ok (.getfield 25, 3) := by decide +kernel
theorem dX7_now_69 : decode cX7_now 69 = .ok (.invokevirtual 145, 3) := by decide +kernel
theorem dX7_now_72 : decode cX7_now 72 = .ok (.goto 7, 3) := by decide +kernel
theorem dX7_now_75 : decode cX7_now 75 = .ok (.aload_n 0, 1) := by decide +kernel
theorem dX7_now_76 : decode cX7_now 76 = .ok (.getfield 117, 3) := by decide +kernel
theorem dX7_now_79 : decode cX7_now 79 = .ok (.ireturn, 1) := by decide +kernel
theorem dX7_notes_0 : decode cX7_notes 0 = .ok (.aload_n 0, 1) := by decide +kernel
theorem dX7_notes_1 : decode cX7_notes 1 = .ok (.getfield 117, 3) := by decide +kernel
theorem dX7_notes_4 : decode cX7_notes 4 = .ok (.bipush 10, 2) := by decide +kernel
theorem dX7_notes_6 : decode cX7_notes 6 = .ok (.if_icmp .ne 39, 3) := by decide +kernel
theorem dX7_notes_9 : decode cX7_notes 9 = .ok (.iconst 0, 1) := by decide +kernel
theorem dX7_notes_10 : decode cX7_notes 10 = .ok (.istore_n 1, 1) := by decide +kernel
theorem dX7_notes_11 : decode cX7_notes 11 = .ok (.iload_n 1, 1) := by decide +kernel
theorem dX7_notes_12 : decode cX7_notes 12 = .ok (.sipush 432, 3) := by decide +kernel
theorem dX7_notes_15 : decode cX7_notes 15 = .ok (.if_icmp .ge 24, 3) := by decide +kernel
theorem dX7_notes_18 : decode cX7_notes 18 = .ok (.aload_n 0, 1) := by decide +kernel
theorem dX7_notes_19 : decode cX7_notes 19 = .ok (.getfield 38, 3) := by decide +kernel
theorem dX7_notes_22 : decode cX7_notes 22 = .ok (.iload_n 1, 1) := by decide +kernel
theorem dX7_notes_23 : decode cX7_notes 23 = .ok (.aload_n 0, 1) := by decide +kernel
theorem dX7_notes_24 : decode cX7_notes 24 = .ok (.getfield 38, 3) := by decide +kernel
theorem dX7_notes_27 : decode cX7_notes 27 = .ok (.iload_n 1, 1) := by decide +kernel
theorem dX7_notes_28 : decode cX7_notes 28 = .ok (.bipush 48, 2) := by decide +kernel
theorem dX7_notes_30 : decode cX7_notes 30 = .ok (.iadd, 1) := by decide +kernel
theorem dX7_notes_31 : decode cX7_notes 31 = .ok (.iaload, 1) := by decide +kernel
theorem dX7_notes_32 : decode cX7_notes 32 = .ok (.iastore, 1) := by decide +kernel
theorem dX7_notes_33 : decode cX7_notes 33 = .ok (.iinc 1 1, 3) := by decide +kernel
theorem dX7_notes_36 : decode cX7_notes 36 = .ok (.goto (-25), 3) := by decide +kernel
theorem dX7_notes_39 : decode cX7_notes 39 = .ok (.aload_n 0, 1) := by decide +kernel
theorem dX7_notes_40 : decode cX7_notes 40 = .ok (.bipush 9, 2) := by decide +kernel
theorem dX7_notes_42 : decode cX7_notes 42 = .ok (.putfield 117, 3) := by decide +kernel
theorem dX7_notes_45 : decode cX7_notes 45 = .ok (.iconst 0, 1) := by decide +kernel
theorem dX7_notes_46 : decode cX7_notes 46 = .ok (.istore_n 1, 1) := by decide +kernel
theorem dX7_notes_47 : decode cX7_notes 47 = .ok (.iload_n 1, 1) := by decide +kernel
theorem dX7_notes_48 : decode cX7_notes 48 = .ok (.bipush 48, 2) := by decide +kernel
theorem dX7_notes_50 : decode cX7_notes 50 = .ok (.if_icmp .ge 29, 3) := by decide +kernel
theorem dX7_notes_53 : decode cX7_notes 53 = .ok (.aload_n 0, 1) := by decide +kernel
theorem dX7_notes_54 : decode cX7_notes 54 = .ok (.getfield 38, 3) := by decide +kernel
theorem dX7_notes_57 : decode cX7_notes 57 = .ok (.bipush 48, 2) := by decide +kernel
theorem dX7_notes_59 : decode cX7_notes 59 = .ok (.aload_n 0, 1) := by decide +kernel
theorem dX7_notes_60 : decode cX7_notes 60 = .ok (.getfield 117, 3) := by decide +kernel
theorem dX7_notes_63 : decode cX7_notes 63 = .ok (.imul, 1) := by decide +kernel
theorem dX7_notes_64 : decode cX7_notes 64 = .ok (.iload_n 1, 1) := by decide +kernel
theorem dX7_notes_65 : decode cX7_notes 65 = .ok (.iadd, 1) := by decide +kernel
theorem dX7_notes_66 : decode cX7_notes 66 = .ok (.aload_n 0, 1) := by decide +kernel
theorem dX7_notes_67 : decode cX7_notes 67 = .ok (.getfield 25, 3) := by decide +kernel
theorem dX7_notes_70 : decode cX7_notes 70 = .ok (.iload_n 1, 1) := by decide +kernel
theorem dX7_notes_71 : decode cX7_notes 71 = .ok (.iaload, 1) := by decide +kernel
theorem dX7_notes_72 : decode cX7_notes 72 = .ok (.iastore, 1) := by decide +kernel
theorem dX7_notes_73 : decode cX7_notes 73 = .ok (.iinc 1 1, 3) := by decide +kernel
theorem dX7_notes_76 : decode cX7_notes 76 = .ok (.goto (-29), 3) := by decide +kernel
theorem dX7_notes_79 : decode cX7_notes 79 = .ok (.aload_n 0, 1) := by decide +kernel
theorem dX7_notes_80 : decode cX7_notes 80 = .ok (.dup, 1) := by decide +kernel
theorem dX7_notes_81 : decode cX7_notes 81 = .ok (.getfield 117, 3) := by decide +kernel
theorem dX7_notes_84 : decode cX7_notes 84 = .ok (.iconst 1, 1) := by decide +kernel
theorem dX7_notes_85 : decode cX7_notes 85 = .ok (.iadd, 1) := by decide +kernel
theorem dX7_notes_86 : decode cX7_notes 86 = .ok (.putfield 117, 3) := by decide +kernel
theorem dX7_notes_89 : decode cX7_notes 89 = .ok (.return_, 1) := by decide +kernel
theorem dX7_sends_0 : decode cX7_sends 0 = .ok (.aload_n 0, 1) := by decide +kernel
theorem dX7_sends_1 : decode cX7_sends 1 = .ok (.iconst 0, 1) := by decide +kernel
theorem dX7_sends_2 : decode cX7_sends 2 = .ok (.putfield 56, 3) := by decide +kernel
theorem dX7_sends_5 : decode cX7_sends 5 = .ok (.aload_n 0, 1) := by decide +kernel
theorem dX7_sends_6 : decode cX7_sends 6 = .ok (.iload_n 1, 1) := by decide +kernel
theorem dX7_sends_7 : decode cX7_sends 7 = .ok (.invokevirtual 128, 3) := by decide +kernel
theorem dX7_sends_10 : decode cX7_sends 10 = .ok (.ifCond .eq 11, 3) := by decide +kernel
theorem dX7_sends_13 : decode cX7_sends 13 = .ok (.aload_n 0, 1) := by decide +kernel
theorem dX7_sends_14 : decode cX7_sends 14 = .ok (.iload_n 2, 1) := by decide +kernel
theorem dX7_sends_15 : decode cX7_sends 15 = .ok (.invokevirtual 120, 3) := by decide +kernel
theorem dX7_sends_18 : decode cX7_sends 18 = .ok (.ifCond .ne 5, 3) := by decide +kernel
theorem dX7_sends_21 : decode cX7_sends 21 = .ok (.iconst (-1), 1) := by decide +kernel
theorem dX7_sends_22 : decode cX7_sends 22 = .ok (.ireturn, 1) := by decide +kernel
theorem dX7_sends_23 : decode cX7_sends 23 = .ok (.aload_n 0, 1) := by decide +kernel
theorem dX7_sends_24 : decode cX7_sends 24 = .ok (.getfield 25, 3) := by decide +kernel
theorem dX7_sends_27 : decode cX7_sends 27 = .ok (.bipush 7, 2) := by decide +kernel
theorem dX7_sends_29 : decode cX7_sends 29 = .ok (.iload_n 1, 1) := by decide +kernel
theorem dX7_sends_30 : decode cX7_sends 30 = .ok (.iadd, 1) := by decide +kernel
theorem dX7_sends_31 : decode cX7_sends 31 = .ok (.iaload, 1) := by decide +kernel
theorem dX7_sends_32 : decode cX7_sends 32 = .ok (.ifCond .gt 17, 3) := by decide +kernel
theorem dX7_sends_35 : decode cX7_sends 35 = .ok (.aload_n 0, 1) := by decide +kernel
theorem dX7_sends_36 : decode cX7_sends 36 = .ok (.aload_n 0, 1) := by decide +kernel
theorem dX7_sends_37 : decode cX7_sends 37 = .ok (.getfield 25, 3) := by decide +kernel
theorem dX7_sends_40 : decode cX7_sends 40 = .ok (.iload_n 2, 1) := by decide +kernel
theorem dX7_sends_41 : decode cX7_sends 41 = .ok (.invokevirtual 124, 3) := by decide +kernel
theorem dX7_sends_44 : decode cX7_sends 44 = .ok (.bipush (-9), 2) := by decide +kernel
theorem dX7_sends_46 : decode cX7_sends 46 = .ok (.if_icmp .eq 6, 3) := by decide +kernel
theorem dX7_sends_49 : decode cX7_sends 49 = .ok (.bipush (-2), 2) := by decide +kernel
theorem dX7_sends_51 : decode cX7_sends 51 = .ok (.ireturn, 1) := by decide +kernel
theorem dX7_sends_52 : decode cX7_sends 52 = .ok (.aload_n 0, 1) := by decide +kernel
theorem dX7_sends_53 : decode cX7_sends 53 = .ok (.invokevirtual 148, 3) := by decide +kernel
theorem dX7_sends_56 : decode cX7_sends 56 = .ok (.aload_n 0, 1) := by decide +kernel
theorem dX7_sends_57 : decode cX7_sends 57 = .ok (.getfield 25, 3) := by decide +kernel
theorem dX7_sends_60 : decode cX7_sends 60 = .ok (.bipush 7, 2) := by decide +kernel
theorem dX7_sends_62 : decode cX7_sends 62 = .ok (.iload_n 1, 1) := by decide +kernel
theorem dX7_sends_63 : decode cX7_sends 63 = .ok (.iadd, 1) := by decide +kernel
theorem dX7_sends_64 : decode cX7_sends 64 = .ok (.iload_n 2, 1) := by decide +kernel
theorem dX7_sends_65 : decode cX7_sends 65 = .ok (.iconst 1, 1) := by decide +kernel
theorem dX7_sends_66 : decode cX7_sends 66 = .ok (.iadd, 1) := by decide +kernel
theorem dX7_sends_67 : decode cX7_sends 67 = .ok (.iastore, 1) := by decide +kernel
theorem dX7_sends_68 : decode cX7_sends 68 = .ok (.aload_n 0, 1) := by decide +kernel
theorem dX7_sends_69 : decode cX7_sends 69 = .ok (.getfield 25, 3) := by decide +kernel
theorem dX7_sends_72 : decode cX7_sends 72 = .ok (.bipush 13, 2) := by decide +kernel
theorem dX7_sends_74 : decode cX7_sends 74 = .ok (.iload_n 2, 1) := by decide +kernel
theorem dX7_sends_75 : decode cX7_sends 75 = .ok (.iadd, 1) := by decide +kernel
theorem dX7_sends_76 : decode cX7_sends 76 = .ok (.iconst 0, 1) := by decide +kernel
theorem dX7_sends_77 : decode cX7_sends 77 = .ok (.iastore, 1) := by decide +kernel
theorem dX7_sends_78 : decode cX7_sends 78 = .ok (.aload_n 0, 1) := by decide +kernel
theorem dX7_sends_79 : decode cX7_sends 79 = .ok (.aload_n 0, 1) := by decide +kernel
theorem dX7_sends_80 : decode cX7_sends 80 = .ok (.getfield 25, 3) := by decide +kernel
theorem dX7_sends_83 : decode cX7_sends 83 = .ok (.invokevirtual 135, 3) := by decide +kernel
theorem dX7_sends_86 : decode cX7_sends 86 = .ok (.invokestatic 151, 3) := by decide +kernel
theorem dX7_sends_89 : decode cX7_sends 89 = .ok (.ireturn, 1) := by decide +kernel
theorem dX7_calls_0 : decode cX7_calls 0 = .ok (.aload_n 0, 1) := by decide +kernel
theorem dX7_calls_1 : decode cX7_calls 1 = .ok (.iconst 0, 1) := by decide +kernel
theorem dX7_calls_2 : decode cX7_calls 2 = .ok (.putfield 56, 3) := by decide +kernel
theorem dX7_calls_5 : decode cX7_calls 5 = .ok (.aload_n 0, 1) := by decide +kernel
theorem dX7_calls_6 : decode cX7_calls 6 = .ok (.iload_n 1, 1) := by decide +kernel
theorem dX7_calls_7 : decode cX7_calls 7 = .ok (.invokevirtual 120, 3) := by decide +kernel
theorem dX7_calls_10 : decode cX7_calls 10 = .ok (.ifCond .ne 5, 3) := by decide +kernel
theorem dX7_calls_13 : decode cX7_calls 13 = .ok (.iconst (-1), 1) := by decide +kernel
theorem dX7_calls_14 : decode cX7_calls 14 = .ok (.ireturn, 1) := by decide +kernel
theorem dX7_calls_15 : decode cX7_calls 15 = .ok (.aload_n 0, 1) := by decide +kernel
theorem dX7_calls_16 : decode cX7_calls 16 = .ok (.aload_n 0, 1) := by decide +kernel
theorem dX7_calls_17 : decode cX7_calls 17 = .ok (.getfield 25, 3) := by decide +kernel
theorem dX7_calls_20 : decode cX7_calls 20 = .ok (.iload_n 1, 1) := by decide +kernel
theorem dX7_calls_21 : decode cX7_calls 21 = .ok (.invokevirtual 124, 3) := by decide +kernel
theorem dX7_calls_24 : decode cX7_calls 24 = .ok (.istore_n 2, 1) := by decide +kernel
theorem dX7_calls_25 : decode cX7_calls 25 = .ok (.iload_n 2, 1) := by decide +kernel
theorem dX7_calls_26 : decode cX7_calls 26 = .ok (.bipush (-9), 2) := by decide +kernel
theorem dX7_calls_28 : decode cX7_calls 28 = .ok (.if_icmp .ne 6, 3) := by decide +kernel
theorem dX7_calls_31 : decode cX7_calls 31 = .ok (.bipush (-2), 2) := by decide +kernel
theorem dX7_calls_33 : decode cX7_calls 33 = .ok (.ireturn, 1) := by decide +kernel
theorem dX7_calls_34 : decode cX7_calls 34 = .ok (.aload_n 0, 1) := by decide +kernel
theorem dX7_calls_35 : decode cX7_calls 35 = .ok (.invokevirtual 148, 3) := by decide +kernel
theorem dX7_calls_38 : decode cX7_calls 38 = .ok (.aload_n 0, 1) := by decide +kernel
theorem dX7_calls_39 : decode cX7_calls 39 = .ok (.getfield 25, 3) := by decide +kernel
theorem dX7_calls_42 : decode cX7_calls 42 = .ok (.bipush 7, 2) := by decide +kernel
theorem dX7_calls_44 : decode cX7_calls 44 = .ok (.iload_n 2, 1) := by decide +kernel
theorem dX7_calls_45 : decode cX7_calls 45 = .ok (.iadd, 1) := by decide +kernel
theorem dX7_calls_46 : decode cX7_calls 46 = .ok (.iconst 0, 1) := by decide +kernel
theorem dX7_calls_47 : decode cX7_calls 47 = .ok (.iastore, 1) := by decide +kernel
theorem dX7_calls_48 : decode cX7_calls 48 = .ok (.aload_n 0, 1) := by decide +kernel
theorem dX7_calls_49 : decode cX7_calls 49 = .ok (.getfield 25, 3) := by decide +kernel
theorem dX7_calls_52 : decode cX7_calls 52 = .ok (.bipush 13, 2) := by decide +kernel
theorem dX7_calls_54 : decode cX7_calls 54 = .ok (.iload_n 1, 1) := by decide +kernel
theorem dX7_calls_55 : decode cX7_calls 55 = .ok (.iadd, 1) := by decide +kernel
theorem dX7_calls_56 : decode cX7_calls 56 = .ok (.iconst 0, 1) := by decide +kernel
theorem dX7_calls_57 : decode cX7_calls 57 = .ok (.iastore, 1) := by decide +kernel
theorem dX7_calls_58 : decode cX7_calls 58 = .ok (.iload_n 2, 1) := by decide +kernel
theorem dX7_calls_59 : decode cX7_calls 59 = .ok (.ireturn, 1) := by decide +kernel
theorem dX7_goes_0 : decode cX7_goes 0 = .ok (.aload_n 1, 1) := by decide +kernel
theorem dX7_goes_1 : decode cX7_goes 1 = .ok (.iconst 0, 1) := by decide +kernel
theorem dX7_goes_2 : decode cX7_goes 2 = .ok (.iaload, 1) := by decide +kernel
theorem dX7_goes_3 : decode cX7_goes 3 = .ok (.bipush 12, 2) := by decide +kernel
theorem dX7_goes_5 : decode cX7_goes 5 = .ok (.irem, 1) := by decide +kernel
theorem dX7_goes_6 : decode cX7_goes 6 = .ok (.istore_n 2, 1) := by decide +kernel
theorem dX7_goes_7 : decode cX7_goes 7 = .ok (.iconst 0, 1) := by decide +kernel
theorem dX7_goes_8 : decode cX7_goes 8 = .ok (.istore_n 3, 1) := by decide +kernel
theorem dX7_goes_9 : decode cX7_goes 9 = .ok (.iload_n 3, 1) := by decide +kernel
theorem dX7_goes_10 : decode cX7_goes 10 = .ok (.aload_n 0, 1) := by decide +kernel
theorem dX7_goes_11 : decode cX7_goes 11 = .ok (.getfield 13, 3) := by decide +kernel
theorem dX7_goes_14 : decode cX7_goes 14 = .ok (.iconst 1, 1) := by decide +kernel
theorem dX7_goes_15 : decode cX7_goes 15 = .ok (.iaload, 1) := by decide +kernel
theorem dX7_goes_16 : decode cX7_goes 16 = .ok (.if_icmp .ge 126, 3) := by decide +kernel
theorem dX7_goes_19 : decode cX7_goes 19 = .ok (.aload_n 1, 1) := by decide +kernel
theorem dX7_goes_20 : decode cX7_goes 20 = .ok (.bipush 7, 2) := by decide +kernel
theorem dX7_goes_22 : decode cX7_goes 22 = .ok (.iload_n 3, 1) := by decide +kernel
theorem dX7_goes_23 : decode cX7_goes 23 = .ok (.iadd, 1) := by decide +kernel
theorem dX7_goes_24 : decode cX7_goes 24 = .ok (.iaload, 1) := by decide +kernel
theorem dX7_goes_25 : decode cX7_goes 25 = .ok (.iconst 1, 1) := by decide +kernel
theorem dX7_goes_26 : decode cX7_goes 26 = .ok (.isub, 1) := by decide +kernel
theorem dX7_goes_27 : decode cX7_goes 27 = .ok (.istore 4, 2) := by decide +kernel
theorem dX7_goes_29 : decode cX7_goes 29 = .ok (.aload_n 1, 1) := by decide +kernel
theorem dX7_goes_30 : decode cX7_goes 30 = .ok (.iconst 1, 1) := by decide +kernel
theorem dX7_goes_31 : decode cX7_goes 31 = .ok (.iload_n 3, 1) := by decide +kernel
theorem dX7_goes_32 : decode cX7_goes 32 = .ok (.iadd, 1) := by decide +kernel
theorem dX7_goes_33 : decode cX7_goes 33 = .ok (.iaload, 1) := by decide +kernel
theorem dX7_goes_34 : decode cX7_goes 34 = .ok (.aload_n 0, 1) := by decide +kernel
theorem dX7_goes_35 : decode cX7_goes 35 = .ok (.getfield 13, 3) := by decide +kernel
theorem dX7_goes_38 : decode cX7_goes 38 = .ok (.iconst 3, 1) := by decide +kernel
theorem dX7_goes_39 : decode cX7_goes 39 = .ok (.iaload, 1) := by decide +kernel
theorem dX7_goes_40 : decode cX7_goes 40 = .ok (.isub, 1) := by decide +kernel
theorem dX7_goes_41 : decode cX7_goes 41 = .ok (.istore 5, 2) := by decide +kernel
theorem dX7_goes_43 : decode cX7_goes 43 = .ok (.iload 4, 2) := by decide +kernel
theorem dX7_goes_45 : decode cX7_goes 45 = .ok (.ifCond .lt 63, 3) := by decide +kernel
theorem dX7_goes_48 : decode cX7_goes 48 = .ok (.aload_n 1, 1) := by decide +kernel
theorem dX7_goes_49 : decode cX7_goes 49 = .ok (.iconst 1, 1) := by decide +kernel
theorem dX7_goes_50 : decode cX7_goes 50 = .ok (.iload_n 3, 1) := by decide +kernel
theorem dX7_goes_51 : decode cX7_goes 51 = .ok (.iadd, 1) := by decide +kernel
theorem dX7_goes_52 : decode cX7_goes 52 = .ok (.iaload, 1) := by decide +kernel
theorem dX7_goes_53 : decode cX7_goes 53 = .ok (.iconst 4, 1) := by decide +kernel
theorem dX7_goes_54 : decode cX7_goes 54 = .ok (.iadd, 1) := by decide +kernel
theorem dX7_goes_55 : decode cX7_goes 55 = .ok (.iload_n 2, 1) := by decide +kernel
theorem dX7_goes_56 : decode cX7_goes 56 = .ok (.iconst 2, 1) := by decide +kernel
theorem dX7_goes_57 : decode cX7_goes 57 = .ok (.iconst 4, 1) := by decide +kernel
theorem dX7_goes_58 : decode cX7_goes 58 = .ok (.invokestatic 60, 3) := by decide +kernel
theorem dX7_goes_61 : decode cX7_goes 61 = .ok (.ifCond .eq 7, 3) := by decide +kernel
theorem dX7_goes_64 : decode cX7_goes 64 = .ok (.iconst 2, 1) := by decide +kernel
theorem dX7_goes_65 : decode cX7_goes 65 = .ok (.goto 4, 3) := by decide +kernel
theorem dX7_goes_68 : decode cX7_goes 68 = .ok (.iconst 0, 1) := by decide +kernel
theorem dX7_goes_69 : decode cX7_goes 69 = .ok (.iadd, 1) := by decide +kernel
theorem dX7_goes_70 : decode cX7_goes 70 = .ok (.aload_n 0, 1) := by decide +kernel
theorem dX7_goes_71 : decode cX7_goes 71 = .ok (.getfield 19, 3) := by decide +kernel
theorem dX7_goes_74 : decode cX7_goes 74 = .ok (.iload 4, 2) := by decide +kernel
theorem dX7_goes_76 : decode cX7_goes 76 = .ok (.iaload, 1) := by decide +kernel
theorem dX7_goes_77 : decode cX7_goes 77 = .ok (.iconst 3, 1) := by decide +kernel
theorem dX7_goes_78 : decode cX7_goes 78 = .ok (.idiv, 1) := by decide +kernel
theorem dX7_goes_79 : decode cX7_goes 79 = .ok (.iadd, 1) := by decide +kernel
theorem dX7_goes_80 : decode cX7_goes 80 = .ok (.istore 5, 2) := by decide +kernel
theorem dX7_goes_82 : decode cX7_goes 82 = .ok (.aload_n 1, 1) := by decide +kernel
theorem dX7_goes_83 : decode cX7_goes 83 = .ok (.bipush 13, 2) := by decide +kernel
theorem dX7_goes_85 : decode cX7_goes 85 = .ok (.iload 4, 2) := by decide +kernel
theorem dX7_goes_87 : decode cX7_goes 87 = .ok (.iadd, 1) := by decide +kernel
theorem dX7_goes_88 : decode cX7_goes 88 = .ok (.dup2, 1) := by decide +kernel
theorem dX7_goes_89 : decode cX7_goes 89 = .ok (.iaload, 1) := by decide +kernel
theorem dX7_goes_90 : decode cX7_goes 90 = .ok (.iconst 1, 1) := by decide +kernel
theorem dX7_goes_91 : decode cX7_goes 91 = .ok (.iadd, 1) := by decide +kernel
theorem dX7_goes_92 : decode cX7_goes 92 = .ok (.iastore, 1) := by decide +kernel
theorem dX7_goes_93 : decode cX7_goes 93 = .ok (.aload_n 1, 1) := by decide +kernel
theorem dX7_goes_94 : decode cX7_goes 94 = .ok (.bipush 18, 2) := by decide +kernel
theorem dX7_goes_96 : decode cX7_goes 96 = .ok (.iconst 5, 1) := by decide +kernel
theorem dX7_goes_97 : decode cX7_goes 97 = .ok (.iload_n 3, 1) := by decide +kernel
theorem dX7_goes_98 : decode cX7_goes 98 = .ok (.imul, 1) := by decide +kernel
theorem dX7_goes_99 : decode cX7_goes 99 = .ok (.iadd, 1) := by decide +kernel
theorem dX7_goes_100 : decode cX7_goes 100 = .ok (.iload 4, 2) := by decide +kernel
theorem dX7_goes_102 : decode cX7_goes 102 = .ok (.iadd, 1) := by decide +kernel
theorem dX7_goes_103 : decode cX7_goes 103 = .ok (.dup2, 1) := by decide +kernel
theorem dX7_goes_104 : decode cX7_goes 104 = .ok (.iaload, 1) := by decide +kernel
theorem dX7_goes_105 : decode cX7_goes 105 = .ok (.iconst 1, 1) := by decide +kernel
theorem dX7_goes_106 : decode cX7_goes 106 = .ok (.iadd, 1) := by decide +kernel
theorem dX7_goes_107 : decode cX7_goes 107 = .ok (.iastore, 1) := by decide +kernel
theorem dX7_goes_108 : decode cX7_goes 108 = .ok (.aload_n 1, 1) := by decide +kernel
theorem dX7_goes_109 : decode cX7_goes 109 = .ok (.iconst 1, 1) := by decide +kernel
theorem dX7_goes_110 : decode cX7_goes 110 = .ok (.iload_n 3, 1) := by decide +kernel
theorem dX7_goes_111 : decode cX7_goes 111 = .ok (.iadd, 1) := by decide +kernel
theorem dX7_goes_112 : decode cX7_goes 112 = .ok (.iload 5, 2) := by decide +kernel
theorem dX7_goes_114 : decode cX7_goes 114 = .ok (.ifCond .ge 7, 3) := by decide +kernel
theorem dX7_goes_117 : decode cX7_goes 117 = .ok (.iconst 0, 1) := by decide +kernel
theorem dX7_goes_118 : decode cX7_goes 118 = .ok (.goto 17, 3) := by decide +kernel
theorem dX7_goes_121 : decode cX7_goes 121 = .ok (.iload 5, 2) := by decide +kernel
theorem dX7_goes_123 : decode cX7_goes 123 = .ok (.bipush 60, 2) := by decide +kernel
theorem dX7_goes_125 : decode cX7_goes 125 = .ok (.if_icmp .le 8, 3) := by decide +kernel
theorem dX7_goes_128 : decode cX7_goes 128 = .ok (.bipush 60, 2) := by decide +kernel
theorem dX7_goes_130 : decode cX7_goes 130 = .ok (.goto 5, 3) := by decide +kernel
theorem dX7_goes_133 : decode cX7_goes 133 = .ok (.iload 5, 2) := by decide +kernel
theorem dX7_goes_135 : decode cX7_goes 135 = .ok (.iastore, 1) := by decide +kernel
theorem dX7_goes_136 : decode cX7_goes 136 = .ok (.iinc 3 1, 3) := by decide +kernel
theorem dX7_goes_139 : decode cX7_goes 139 = .ok (.goto (-130), 3) := by decide +kernel
theorem dX7_goes_142 : decode cX7_goes 142 = .ok (.aload_n 1, 1) := by decide +kernel
theorem dX7_goes_143 : decode cX7_goes 143 = .ok (.iconst 0, 1) := by decide +kernel
theorem dX7_goes_144 : decode cX7_goes 144 = .ok (.dup2, 1) := by decide +kernel
theorem dX7_goes_145 : decode cX7_goes 145 = .ok (.iaload, 1) := by decide +kernel
theorem dX7_goes_146 : decode cX7_goes 146 = .ok (.iconst 1, 1) := by decide +kernel
theorem dX7_goes_147 : decode cX7_goes 147 = .ok (.iadd, 1) := by decide +kernel
theorem dX7_goes_148 : decode cX7_goes 148 = .ok (.iastore, 1) := by decide +kernel
theorem dX7_goes_149 : decode cX7_goes 149 = .ok (.return_, 1) := by decide +kernel
theorem dX7_hour_0 : decode cX7_hour 0 = .ok (.aload_n 0, 1) := by decide +kernel
theorem dX7_hour_1 : decode cX7_hour 1 = .ok (.iconst 0, 1) := by decide +kernel
theorem dX7_hour_2 : decode cX7_hour 2 = .ok (.putfield 56, 3) := by decide +kernel
theorem dX7_hour_5 : decode cX7_hour 5 = .ok (.aload_n 0, 1) := by decide +kernel
theorem dX7_hour_6 : decode cX7_hour 6 = .ok (.getfield 25, 3) := by decide +kernel
theorem dX7_hour_9 : decode cX7_hour 9 = .ok (.iconst 0, 1) := by decide +kernel
theorem dX7_hour_10 : decode cX7_hour 10 = .ok (.iaload, 1) := by decide +kernel
theorem dX7_hour_11 : decode cX7_hour 11 = .ok (.sipush 200, 3) := by decide +kernel
theorem dX7_hour_14 : decode cX7_hour 14 = .ok (.if_icmp .ne 6, 3) := by decide +kernel
theorem dX7_hour_17 : decode cX7_hour 17 = .ok (.bipush (-2), 2) := by decide +kernel
theorem dX7_hour_19 : decode cX7_hour 19 = .ok (.ireturn, 1) := by decide +kernel
theorem dX7_hour_20 : decode cX7_hour 20 = .ok (.aload_n 0, 1) := by decide +kernel
theorem dX7_hour_21 : decode cX7_hour 21 = .ok (.invokevirtual 148, 3) := by decide +kernel
theorem dX7_hour_24 : decode cX7_hour 24 = .ok (.aload_n 0, 1) := by decide +kernel
theorem dX7_hour_25 : decode cX7_hour 25 = .ok (.aload_n 0, 1) := by decide +kernel
theorem dX7_hour_26 : decode cX7_hour 26 = .ok (.getfield 25, 3) := by decide +kernel
theorem dX7_hour_29 : decode cX7_hour 29 = .ok (.invokevirtual 154, 3) := by decide +kernel
theorem dX7_hour_32 : decode cX7_hour 32 = .ok (.aload_n 0, 1) := by decide +kernel
theorem dX7_hour_33 : decode cX7_hour 33 = .ok (.aload_n 0, 1) := by decide +kernel
theorem dX7_hour_34 : decode cX7_hour 34 = .ok (.getfield 25, 3) := by decide +kernel
theorem dX7_hour_37 : decode cX7_hour 37 = .ok (.invokevirtual 139, 3) := by decide +kernel
theorem dX7_hour_40 : decode cX7_hour 40 = .ok (.ireturn, 1) := by decide +kernel
theorem dX7_nextMan_0 : decode cX7_nextMan 0 = .ok (.bipush (-9), 2) := by decide +kernel
theorem dX7_nextMan_2 : decode cX7_nextMan 2 = .ok (.istore_n 3, 1) := by decide +kernel
theorem dX7_nextMan_3 : decode cX7_nextMan 3 = .ok (.iconst 0, 1) := by decide +kernel
theorem dX7_nextMan_4 : decode cX7_nextMan 4 = .ok (.istore 4, 2) := by decide +kernel
theorem dX7_nextMan_6 : decode cX7_nextMan 6 = .ok (.iload 4, 2) := by decide +kernel
theorem dX7_nextMan_8 : decode cX7_nextMan 8 = .ok (.aload_n 0, 1) := by decide +kernel
theorem dX7_nextMan_9 : decode cX7_nextMan 9 = .ok (.getfield 13, 3) := by decide +kernel
theorem dX7_nextMan_12 : decode cX7_nextMan 12 = .ok (.iconst 1, 1) := by decide +kernel
theorem dX7_nextMan_13 : decode cX7_nextMan 13 = .ok (.iaload, 1) := by decide +kernel
theorem dX7_nextMan_14 : decode cX7_nextMan 14 = .ok (.if_icmp .ge 67, 3) := by decide +kernel
theorem dX7_nextMan_17 : decode cX7_nextMan 17 = .ok (.aload_n 1, 1) := by decide +kernel
theorem dX7_nextMan_18 : decode cX7_nextMan 18 = .ok (.bipush 7, 2) := by decide +kernel
theorem dX7_nextMan_20 : decode cX7_nextMan 20 = .ok (.iload 4, 2) := by decide +kernel
theorem dX7_nextMan_22 : decode cX7_nextMan 22 = .ok (.iadd, 1) := by decide +kernel
theorem dX7_nextMan_23 : decode cX7_nextMan 23 = .ok (.iaload, 1) := by decide +kernel
theorem dX7_nextMan_24 : decode cX7_nextMan 24 = .ok (.ifCond .ne 16, 3) := by decide +kernel
theorem dX7_nextMan_27 : decode cX7_nextMan 27 = .ok (.iload_n 2, 1) := by decide +kernel
theorem dX7_nextMan_28 : decode cX7_nextMan 28 = .ok (.iload 4, 2) := by decide +kernel
theorem dX7_nextMan_30 : decode cX7_nextMan 30 = .ok (.ishr, 1) := by decide +kernel
theorem dX7_nextMan_31 : decode cX7_nextMan 31 = .ok (.iconst 1, 1) := by decide +kernel
theorem dX7_nextMan_32 : decode cX7_nextMan 32 = .ok (.iand, 1) := by decide +kernel
theorem dX7_nextMan_33 : decode cX7_nextMan 33 = .ok (.ifCond .ne 7, 3) := by decide +kernel
theorem dX7_nextMan_36 : decode cX7_nextMan 36 = .ok (.iconst 1, 1) := by decide +kernel
theorem dX7_nextMan_37 : decode cX7_nextMan 37 = .ok (.goto 4, 3) := by decide +kernel
theorem dX7_nextMan_40 : decode cX7_nextMan 40 = .ok (.iconst 0, 1) := by decide +kernel
theorem dX7_nextMan_41 : decode cX7_nextMan 41 = .ok (.istore 5, 2) := by decide +kernel
theorem dX7_nextMan_43 : decode cX7_nextMan 43 = .ok (.iload 5, 2) := by decide +kernel
theorem dX7_nextMan_45 : decode cX7_nextMan 45 = .ok (.ifCond .eq 28, 3) := by decide +kernel
theorem dX7_nextMan_48 : decode cX7_nextMan 48 = .ok (.iload_n 3, 1) := by decide +kernel
theorem dX7_nextMan_49 : decode cX7_nextMan 49 = .ok (.bipush (-9), 2) := by decide +kernel
theorem dX7_nextMan_51 : decode cX7_nextMan 51 = .ok (.if_icmp .eq 17, 3) := by decide +kernel
theorem dX7_nextMan_54 : decode cX7_nextMan 54 = .ok (.aload_n 1, 1) := by decide +kernel
theorem dX7_nextMan_55 : decode cX7_nextMan 55 = .ok (.iconst 1, 1) := by decide +kernel
theorem dX7_nextMan_56 : decode cX7_nextMan 56 = .ok (.iload 4, 2) := by decide +kernel
theorem dX7_nextMan_58 : decode cX7_nextMan 58 = .ok (.iadd, 1) := by decide +kernel
theorem dX7_nextMan_59 : decode cX7_nextMan 59 = .ok (.iaload, 1) := by decide +kernel
theorem dX7_nextMan_60 : decode cX7_nextMan 60 = .ok (.aload_n 1, 1) := by decide +kernel
theorem dX7_nextMan_61 : decode cX7_nextMan 61 = .ok (.iconst 1, 1) := by decide +kernel
theorem dX7_nextMan_62 : decode cX7_nextMan 62 = .ok (.iload_n 3, 1) := by decide +kernel
theorem dX7_nextMan_63 : decode cX7_nextMan 63 = .ok (.iadd, 1) := by decide +kernel
theorem dX7_nextMan_64 : decode cX7_nextMan 64 = .ok (.iaload, 1) := by decide +kernel
theorem dX7_nextMan_65 : decode cX7_nextMan 65 = .ok (.if_icmp .ge 8, 3) := by decide +kernel
theorem dX7_nextMan_68 : decode cX7_nextMan 68 = .ok (.iload 4, 2) := by decide +kernel
theorem dX7_nextMan_70 : decode cX7_nextMan 70 = .ok (.goto 4, 3) := by decide +kernel
theorem dX7_nextMan_73 : decode cX7_nextMan 73 = .ok (.iload_n 3, 1) := by decide +kernel
theorem dX7_nextMan_74 : decode cX7_nextMan 74 = .ok (.istore_n 3, 1) := by decide +kernel
theorem dX7_nextMan_75 : decode cX7_nextMan 75 = .ok (.iinc 4 1, 3) := by decide +kernel
theorem dX7_nextMan_78 : decode cX7_nextMan 78 = .ok (.goto (-72), 3) := by decide +kernel
theorem dX7_nextMan_81 : decode cX7_nextMan 81 = .ok (.iload_n 3, 1) := by decide +kernel
theorem dX7_nextMan_82 : decode cX7_nextMan 82 = .ok (.ireturn, 1) := by decide +kernel
theorem dX7_relieved_0 : decode cX7_relieved 0 = .ok (.iconst 0, 1) := by decide +kernel
theorem dX7_relieved_1 : decode cX7_relieved 1 = .ok (.istore 4, 2) := by decide +kernel
theorem dX7_relieved_3 : decode cX7_relieved 3 = .ok (.iconst 0, 1) := by decide +kernel
theorem dX7_relieved_4 : decode cX7_relieved 4 = .ok (.istore 5, 2) := by decide +kernel
theorem dX7_relieved_6 : decode cX7_relieved 6 = .ok (.iconst 0, 1) := by decide +kernel
theorem dX7_relieved_7 : decode cX7_relieved 7 = .ok (.istore 6, 2) := by decide +kernel
theorem dX7_relieved_9 : decode cX7_relieved 9 = .ok (.iload 6, 2) := by decide +kernel
theorem dX7_relieved_11 : decode cX7_relieved 11 = .ok (.aload_n 0, 1) := by decide +kernel
theorem dX7_relieved_12 : decode cX7_relieved 12 = .ok (.getfield 13, 3) := by decide +kernel
theorem dX7_relieved_15 : decode cX7_relieved 15 = .ok (.iconst 0, 1) := by decide +kernel
theorem dX7_relieved_16 : decode cX7_relieved 16 = .ok (.iaload, 1) := by decide +kernel
theorem dX7_relieved_17 : decode cX7_relieved 17 = .ok (.if_icmp .ge 126, 3) := by decide +kernel
theorem dX7_relieved_20 : decode cX7_relieved 20 = .ok (.iload_n 2, 1) := by decide +kernel
theorem dX7_relieved_21 : decode cX7_relieved 21 = .ok (.iload_n 3, 1) := by decide +kernel
theorem dX7_relieved_22 : decode cX7_relieved 22 = .ok (.iconst 1, 1) := by decide +kernel
theorem dX7_relieved_23 : decode cX7_relieved 23 = .ok (.if_icmp .ne 8, 3) := by decide +kernel
theorem dX7_relieved_26 : decode cX7_relieved 26 = .ok (.iload 6, 2) := by decide +kernel
theorem dX7_relieved_28 : decode cX7_relieved 28 = .ok (.goto 12, 3) := by decide +kernel
theorem dX7_relieved_31 : decode cX7_relieved 31 = .ok (.aload_n 0, 1) := by decide +kernel
theorem dX7_relieved_32 : decode cX7_relieved 32 = .ok (.getfield 13, 3) := by decide +kernel
theorem dX7_relieved_35 : decode cX7_relieved 35 = .ok (.iconst 0, 1) := by decide +kernel
theorem dX7_relieved_36 : decode cX7_relieved 36 = .ok (.iaload, 1) := by decide +kernel
theorem dX7_relieved_37 : decode cX7_relieved 37 = .ok (.iload 6, 2) := by decide +kernel
theorem dX7_relieved_39 : decode cX7_relieved 39 = .ok (.isub, 1) := by decide +kernel
theorem dX7_relieved_40 : decode cX7_relieved 40 = .ok (.iadd, 1) := by decide +kernel
theorem dX7_relieved_41 : decode cX7_relieved 41 = .ok (.aload_n 0, 1) := by decide +kernel
theorem dX7_relieved_42 : decode cX7_relieved 42 = .ok (.getfield 13, 3) := by decide +kernel
theorem dX7_relieved_45 : decode cX7_relieved 45 = .ok (.iconst 0, 1) := by decide +kernel
theorem dX7_relieved_46 : decode cX7_relieved 46 = .ok (.iaload, 1) := by decide +kernel
theorem dX7_relieved_47 : decode cX7_relieved 47 = .ok (.irem, 1) := by decide +kernel
theorem dX7_relieved_48 : decode cX7_relieved 48 = .ok (.istore 7, 2) := by decide +kernel
theorem dX7_relieved_50 : decode cX7_relieved 50 = .ok (.aload_n 0, 1) := by decide +kernel
theorem dX7_relieved_51 : decode cX7_relieved 51 = .ok (.aload_n 1, 1) := by decide +kernel
theorem dX7_relieved_52 : decode cX7_relieved 52 = .ok (.iload 7, 2) := by decide +kernel
theorem dX7_relieved_54 : decode cX7_relieved 54 = .ok (.invokevirtual 124, 3) := by decide +kernel
theorem dX7_relieved_57 : decode cX7_relieved 57 = .ok (.istore 8, 2) := by decide +kernel
theorem dX7_relieved_59 : decode cX7_relieved 59 = .ok (.aload_n 0, 1) := by decide +kernel
theorem dX7_relieved_60 : decode cX7_relieved 60 = .ok (.aload_n 1, 1) := by decide +kernel
theorem dX7_relieved_61 : decode cX7_relieved 61 = .ok (.iload 5, 2) := by decide +kernel
theorem dX7_relieved_63 : decode cX7_relieved 63 = .ok (.invokevirtual 158, 3) := by decide +kernel
theorem dX7_relieved_66 : decode cX7_relieved 66 = .ok (.istore 9, 2) := by decide +kernel
theorem dX7_relieved_68 : decode cX7_relieved 68 = .ok (.iload 8, 2) := by decide +kernel
theorem dX7_relieved_70 : decode cX7_relieved 70 = .ok (.bipush (-9), 2) := by decide +kernel
theorem dX7_relieved_72 : decode cX7_relieved 72 = .ok (.if_icmp .eq 65, 3) := by decide +kernel
theorem dX7_relieved_75 : decode cX7_relieved 75 = .ok (.aload_n 1, 1) := by decide +kernel
theorem dX7_relieved_76 : decode cX7_relieved 76 = .ok (.bipush 13, 2) := by decide +kernel
theorem dX7_relieved_78 : decode cX7_relieved 78 = .ok (.iload 7, 2) := by decide +kernel
theorem dX7_relieved_80 : decode cX7_relieved 80 = .ok (.iadd, 1) := by decide +kernel
theorem dX7_relieved_81 : decode cX7_relieved 81 = .ok (.iaload, 1) := by decide +kernel
theorem dX7_relieved_82 : decode cX7_relieved 82 = .ok (.aload_n 0, 1) := by decide +kernel
theorem dX7_relieved_83 : decode cX7_relieved 83 = .ok (.getfield 13, 3) := by decide +kernel
theorem dX7_relieved_86 : decode cX7_relieved 86 = .ok (.iconst 2, 1) := by decide +kernel
theorem dX7_relieved_87 : decode cX7_relieved 87 = .ok (.iaload, 1) := by decide +kernel
theorem dX7_relieved_88 : decode cX7_relieved 88 = .ok (.if_icmp .lt 49, 3) := by decide +kernel
theorem dX7_relieved_91 : decode cX7_relieved 91 = .ok (.iload 9, 2) := by decide +kernel
theorem dX7_relieved_93 : decode cX7_relieved 93 = .ok (.bipush (-9), 2) := by decide +kernel
theorem dX7_relieved_95 : decode cX7_relieved 95 = .ok (.if_icmp .eq 42, 3) := by decide +kernel
theorem dX7_relieved_98 : decode cX7_relieved 98 = .ok (.aload_n 1, 1) := by decide +kernel
theorem dX7_relieved_99 : decode cX7_relieved 99 = .ok (.bipush 7, 2) := by decide +kernel
theorem dX7_relieved_101 : decode cX7_relieved 101 = .ok (.iload 8, 2) := by decide +kernel
theorem dX7_relieved_103 : decode cX7_relieved 103 = .ok (.iadd, 1) := by decide +kernel
theorem dX7_relieved_104 : decode cX7_relieved 104 = .ok (.iconst 0, 1) := by decide +kernel
theorem dX7_relieved_105 : decode cX7_relieved 105 = .ok (.iastore, 1) := by decide +kernel
theorem dX7_relieved_106 : decode cX7_relieved 106 = .ok (.iload 5, 2) := by decide +kernel
theorem dX7_relieved_108 : decode cX7_relieved 108 = .ok (.iconst 1, 1) := by decide +kernel
theorem dX7_relieved_109 : decode cX7_relieved 109 = .ok (.iload 8, 2) := by decide +kernel
theorem dX7_relieved_111 : decode cX7_relieved 111 = .ok (.ishl, 1) := by decide +kernel
theorem dX7_relieved_112 : decode cX7_relieved 112 = .ok (.ior, 1) := by decide +kernel
theorem dX7_relieved_113 : decode cX7_relieved 113 = .ok (.istore 5, 2) := by decide +kernel
theorem dX7_relieved_115 : decode cX7_relieved 115 = .ok (.aload_n 1, 1) := by decide +kernel
theorem dX7_relieved_116 : decode cX7_relieved 116 = .ok (.bipush 7, 2) := by decide +kernel
theorem dX7_relieved_118 : decode cX7_relieved 118 = .ok (.iload 9, 2) := by decide +kernel
theorem dX7_relieved_120 : decode cX7_relieved 120 = .ok (.iadd, 1) := by decide +kernel
theorem dX7_relieved_121 : decode cX7_relieved 121 = .ok (.iload 7, 2) := by decide +kernel
theorem dX7_relieved_123 : decode cX7_relieved 123 = .ok (.iconst 1, 1) := by decide +kernel
theorem dX7_relieved_124 : decode cX7_relieved 124 = .ok (.iadd, 1) := by decide +kernel
theorem dX7_relieved_125 : decode cX7_relieved 125 = .ok (.iastore, 1) := by decide +kernel
theorem dX7_relieved_126 : decode cX7_relieved 126 = .ok (.aload_n 1, 1) := by decide +kernel
theorem dX7_relieved_127 : decode cX7_relieved 127 = .ok (.bipush 13, 2) := by decide +kernel
theorem dX7_relieved_129 : decode cX7_relieved 129 = .ok (.iload 7, 2) := by decide +kernel
theorem dX7_relieved_131 : decode cX7_relieved 131 = .ok (.iadd, 1) := by decide +kernel
theorem dX7_relieved_132 : decode cX7_relieved 132 = .ok (.iconst 0, 1) := by decide +kernel
theorem dX7_relieved_133 : decode cX7_relieved 133 = .ok (.iastore, 1) := by decide +kernel
theorem dX7_relieved_134 : decode cX7_relieved 134 = .ok (.iinc 4 1, 3) := by decide +kernel
theorem dX7_relieved_137 : decode cX7_relieved 137 = .ok (.iinc 6 1, 3) := by decide +kernel
theorem dX7_relieved_140 : decode cX7_relieved 140 = .ok (.goto (-131), 3) := by decide +kernel
theorem dX7_relieved_143 : decode cX7_relieved 143 = .ok (.iload 4, 2) := by decide +kernel
theorem dX7_relieved_145 : decode cX7_relieved 145 = .ok (.ireturn, 1) := by decide +kernel
theorem dX7_relieves_0 : decode cX7_relieves 0 = .ok (.aload_n 0, 1) := by decide +kernel
theorem dX7_relieves_1 : decode cX7_relieves 1 = .ok (.iconst 0, 1) := by decide +kernel
theorem dX7_relieves_2 : decode cX7_relieves 2 = .ok (.putfield 56, 3) := by decide +kernel
theorem dX7_relieves_5 : decode cX7_relieves 5 = .ok (.aload_n 0, 1) := by decide +kernel
theorem dX7_relieves_6 : decode cX7_relieves 6 = .ok (.iload_n 1, 1) := by decide +kernel
theorem dX7_relieves_7 : decode cX7_relieves 7 = .ok (.invokevirtual 120, 3) := by decide +kernel
theorem dX7_relieves_10 : decode cX7_relieves 10 = .ok (.ifCond .eq 12, 3) := by decide +kernel
theorem dX7_relieves_13 : decode cX7_relieves 13 = .ok (.iload_n 2, 1) := by decide +kernel
theorem dX7_relieves_14 : decode cX7_relieves 14 = .ok (.iconst 0, 1) := by decide +kernel
theorem dX7_relieves_15 : decode cX7_relieves 15 = .ok (.iconst 1, 1) := by decide +kernel
theorem dX7_relieves_16 : decode cX7_relieves 16 = .ok (.invokestatic 60, 3) := by decide +kernel
theorem dX7_relieves_19 : decode cX7_relieves 19 = .ok (.ifCond .ne 5, 3) := by decide +kernel
theorem dX7_relieves_22 : decode cX7_relieves 22 = .ok (.iconst (-1), 1) := by decide +kernel
theorem dX7_relieves_23 : decode cX7_relieves 23 = .ok (.ireturn, 1) := by decide +kernel
theorem dX7_relieves_24 : decode cX7_relieves 24 = .ok (.aload_n 0, 1) := by decide +kernel
theorem dX7_relieves_25 : decode cX7_relieves 25 = .ok (.invokevirtual 148, 3) := by decide +kernel
theorem dX7_relieves_28 : decode cX7_relieves 28 = .ok (.aload_n 0, 1) := by decide +kernel
theorem dX7_relieves_29 : decode cX7_relieves 29 = .ok (.aload_n 0, 1) := by decide +kernel
theorem dX7_relieves_30 : decode cX7_relieves 30 = .ok (.getfield 25, 3) := by decide +kernel
theorem dX7_relieves_33 : decode cX7_relieves 33 = .ok (.iload_n 1, 1) := by decide +kernel
theorem dX7_relieves_34 : decode cX7_relieves 34 = .ok (.iload_n 2, 1) := by decide +kernel
theorem dX7_relieves_35 : decode cX7_relieves 35 = .ok (.invokevirtual 161, 3) := by decide +kernel
theorem dX7_relieves_38 : decode cX7_relieves 38 = .ok (.ireturn, 1) := by decide +kernel
theorem dX7_undo_0 : decode cX7_undo 0 = .ok (.aload_n 0, 1) := by decide +kernel
theorem dX7_undo_1 : decode cX7_undo 1 = .ok (.iconst 0, 1) := by decide +kernel
theorem dX7_undo_2 : decode cX7_undo 2 = .ok (.putfield 56, 3) := by decide +kernel
theorem dX7_undo_5 : decode cX7_undo 5 = .ok (.aload_n 0, 1) := by decide +kernel
theorem dX7_undo_6 : decode cX7_undo 6 = .ok (.getfield 117, 3) := by decide +kernel
theorem dX7_undo_9 : decode cX7_undo 9 = .ok (.ifCond .ne 6, 3) := by decide +kernel
theorem dX7_undo_12 : decode cX7_undo 12 = .ok (.bipush (-2), 2) := by decide +kernel
theorem dX7_undo_14 : decode cX7_undo 14 = .ok (.ireturn, 1) := by decide +kernel
theorem dX7_undo_15 : decode cX7_undo 15 = .ok (.aload_n 0, 1) := by decide +kernel
theorem dX7_undo_16 : decode cX7_undo 16 = .ok (.dup, 1) := by decide +kernel
theorem dX7_undo_17 : decode cX7_undo 17 = .ok (.getfield 117, 3) := by decide +kernel
theorem dX7_undo_20 : decode cX7_undo 20 = .ok (.iconst 1, 1) := by decide +kernel
theorem dX7_undo_21 : decode cX7_undo 21 = .ok (.isub, 1) := by decide +kernel
theorem dX7_undo_22 : decode cX7_undo 22 = .ok (.putfield 117, 3) := by decide +kernel
theorem dX7_undo_25 : decode cX7_undo 25 = .ok (.iconst 0, 1) := by decide +kernel
theorem dX7_undo_26 : decode cX7_undo 26 = .ok (.istore_n 1, 1) := by decide +kernel
theorem dX7_undo_27 : decode cX7_undo 27 = .ok (.iload_n 1, 1) := by decide +kernel
theorem dX7_undo_28 : decode cX7_undo 28 = .ok (.bipush 48, 2) := by decide +kernel
theorem dX7_undo_30 : decode cX7_undo 30 = .ok (.if_icmp .ge 29, 3) := by decide +kernel
theorem dX7_undo_33 : decode cX7_undo 33 = .ok (.aload_n 0, 1) := by decide +kernel
theorem dX7_undo_34 : decode cX7_undo 34 = .ok (.getfield 25, 3) := by decide +kernel
theorem dX7_undo_37 : decode cX7_undo 37 = .ok (.iload_n 1, 1) := by decide +kernel
theorem dX7_undo_38 : decode cX7_undo 38 = .ok (.aload_n 0, 1) := by decide +kernel
theorem dX7_undo_39 : decode cX7_undo 39 = .ok (.getfield 38, 3) := by decide +kernel
theorem dX7_undo_42 : decode cX7_undo 42 = .ok (.bipush 48, 2) := by decide +kernel
theorem dX7_undo_44 : decode cX7_undo 44 = .ok (.aload_n 0, 1) := by decide +kernel
theorem dX7_undo_45 : decode cX7_undo 45 = .ok (.getfield 117, 3) := by decide +kernel
theorem dX7_undo_48 : decode cX7_undo 48 = .ok (.imul, 1) := by decide +kernel
theorem dX7_undo_49 : decode cX7_undo 49 = .ok (.iload_n 1, 1) := by decide +kernel
theorem dX7_undo_50 : decode cX7_undo 50 = .ok (.iadd, 1) := by decide +kernel
theorem dX7_undo_51 : decode cX7_undo 51 = .ok (.iaload, 1) := by decide +kernel
theorem dX7_undo_52 : decode cX7_undo 52 = .ok (.iastore, 1) := by decide +kernel
theorem dX7_undo_53 : decode cX7_undo 53 = .ok (.iinc 1 1, 3) := by decide +kernel
theorem dX7_undo_56 : decode cX7_undo 56 = .ok (.goto (-29), 3) := by decide +kernel
theorem dX7_undo_59 : decode cX7_undo 59 = .ok (.aload_n 0, 1) := by decide +kernel
theorem dX7_undo_60 : decode cX7_undo 60 = .ok (.getfield 117, 3) := by decide +kernel
theorem dX7_undo_63 : decode cX7_undo 63 = .ok (.ireturn, 1) := by decide +kernel
theorem dX7_asNow_0 : decode cX7_asNow 0 = .ok (.iconst 0, 1) := by decide +kernel
theorem dX7_asNow_1 : decode cX7_asNow 1 = .ok (.istore_n 1, 1) := by decide +kernel
theorem dX7_asNow_2 : decode cX7_asNow 2 = .ok (.iload_n 1, 1) := by decide +kernel
theorem dX7_asNow_3 : decode cX7_asNow 3 = .ok (.bipush 48, 2) := by decide +kernel
theorem dX7_asNow_5 : decode cX7_asNow 5 = .ok (.if_icmp .ge 21, 3) := by decide +kernel
theorem dX7_asNow_8 : decode cX7_asNow 8 = .ok (.aload_n 0, 1) := by decide +kernel
theorem dX7_asNow_9 : decode cX7_asNow 9 = .ok (.getfield 28, 3) := by decide +kernel
theorem dX7_asNow_12 : decode cX7_asNow 12 = .ok (.iload_n 1, 1) := by decide +kernel
theorem dX7_asNow_13 : decode cX7_asNow 13 = .ok (.aload_n 0, 1) := by decide +kernel
theorem dX7_asNow_14 : decode cX7_asNow 14 = .ok (.getfield 25, 3) := by decide +kernel
theorem dX7_asNow_17 : decode cX7_asNow 17 = .ok (.iload_n 1, 1) := by decide +kernel
theorem dX7_asNow_18 : decode cX7_asNow 18 = .ok (.iaload, 1) := by decide +kernel
theorem dX7_asNow_19 : decode cX7_asNow 19 = .ok (.iastore, 1) := by decide +kernel
theorem dX7_asNow_20 : decode cX7_asNow 20 = .ok (.iinc 1 1, 3) := by decide +kernel
theorem dX7_asNow_23 : decode cX7_asNow 23 = .ok (.goto (-21), 3) := by decide +kernel
theorem dX7_asNow_26 : decode cX7_asNow 26 = .ok (.return_, 1) := by decide +kernel
theorem dX7_goesBy_0 : decode cX7_goesBy 0 = .ok (.aload_n 0, 1) := by decide +kernel
theorem dX7_goesBy_1 : decode cX7_goesBy 1 = .ok (.aload_n 0, 1) := by decide +kernel
theorem dX7_goesBy_2 : decode cX7_goesBy 2 = .ok (.getfield 28, 3) := by decide +kernel
theorem dX7_goesBy_5 : decode cX7_goesBy 5 = .ok (.invokevirtual 154, 3) := by decide +kernel
theorem dX7_goesBy_8 : decode cX7_goesBy 8 = .ok (.iload_n 1, 1) := by decide +kernel
theorem dX7_goesBy_9 : decode cX7_goesBy 9 = .ok (.iconst 1, 1) := by decide +kernel
theorem dX7_goesBy_10 : decode cX7_goesBy 10 = .ok (.if_icmp .ne 14, 3) := by decide +kernel
theorem dX7_goesBy_13 : decode cX7_goesBy 13 = .ok (.aload_n 0, 1) := by decide +kernel
theorem dX7_goesBy_14 : decode cX7_goesBy 14 = .ok (.aload_n 0, 1) := by decide +kernel
theorem dX7_goesBy_15 : decode cX7_goesBy 15 = .ok (.getfield 28, 3) := by decide +kernel
theorem dX7_goesBy_18 : decode cX7_goesBy 18 = .ok (.iconst 0, 1) := by decide +kernel
theorem dX7_goesBy_19 : decode cX7_goesBy 19 = .ok (.iconst 1, 1) := by decide +kernel
theorem dX7_goesBy_20 : decode cX7_goesBy 20 = .ok (.invokevirtual 161, 3) := by decide +kernel
theorem dX7_goesBy_23 : decode cX7_goesBy 23 = .ok (.pop, 1) := by decide +kernel
theorem dX7_goesBy_24 : decode cX7_goesBy 24 = .ok (.return_, 1) := by decide +kernel
theorem dX7_inHours_0 : decode cX7_inHours 0 = .ok (.aload_n 0, 1) := by decide +kernel
theorem dX7_inHours_1 : decode cX7_inHours 1 = .ok (.iconst 0, 1) := by decide +kernel
theorem dX7_inHours_2 : decode cX7_inHours 2 = .ok (.putfield 56, 3) := by decide +kernel
theorem dX7_inHours_5 : decode cX7_inHours 5 = .ok (.iload_n 1, 1) := by decide +kernel
theorem dX7_inHours_6 : decode cX7_inHours 6 = .ok (.iconst 0, 1) := by decide +kernel
theorem dX7_inHours_7 : decode cX7_inHours 7 = .ok (.bipush 60, 2) := by decide +kernel
theorem dX7_inHours_9 : decode cX7_inHours 9 = .ok (.invokestatic 60, 3) := by decide +kernel
theorem dX7_inHours_12 : decode cX7_inHours 12 = .ok (.ifCond .eq 21, 3) := by decide +kernel
theorem dX7_inHours_15 : decode cX7_inHours 15 = .ok (.iload_n 2, 1) := by decide +kernel
theorem dX7_inHours_16 : decode cX7_inHours 16 = .ok (.iconst 0, 1) := by decide +kernel
theorem dX7_inHours_17 : decode cX7_inHours 17 = .ok (.iconst 1, 1) := by decide +kernel
theorem dX7_inHours_18 : decode cX7_inHours 18 = .ok (.invokestatic 60, 3) := by decide +kernel
theorem dX7_inHours_21 : decode cX7_inHours 21 = .ok (.ifCond .eq 12, 3) := by decide +kernel
theorem dX7_inHours_24 : decode cX7_inHours 24 = .ok (.iload_n 3, 1) := by decide +kernel
theorem dX7_inHours_25 : decode cX7_inHours 25 = .ok (.iconst 0, 1) := by decide +kernel
theorem dX7_inHours_26 : decode cX7_inHours 26 = .ok (.iconst 2, 1) := by decide +kernel
theorem dX7_inHours_27 : decode cX7_inHours 27 = .ok (.invokestatic 60, 3) := by decide +kernel
theorem dX7_inHours_30 : decode cX7_inHours 30 = .ok (.ifCond .ne 5, 3) := by decide +kernel
theorem dX7_inHours_33 : decode cX7_inHours 33 = .ok (.iconst (-1), 1) := by decide +kernel
theorem dX7_inHours_34 : decode cX7_inHours 34 = .ok (.ireturn, 1) := by decide +kernel
theorem dX7_inHours_35 : decode cX7_inHours 35 = .ok (.aload_n 0, 1) := by decide +kernel
theorem dX7_inHours_36 : decode cX7_inHours 36 = .ok (.invokevirtual 165, 3) := by decide +kernel
theorem dX7_inHours_39 : decode cX7_inHours 39 = .ok (.aload_n 0, 1) := by decide +kernel
theorem dX7_inHours_40 : decode cX7_inHours 40 = .ok (.aload_n 0, 1) := by decide +kernel
theorem dX7_inHours_41 : decode cX7_inHours 41 = .ok (.getfield 28, 3) := by decide +kernel
theorem dX7_inHours_44 : decode cX7_inHours 44 = .ok (.invokevirtual 139, 3) := by decide +kernel
theorem dX7_inHours_47 : decode cX7_inHours 47 = .ok (.invokestatic 151, 3) := by decide +kernel
theorem dX7_inHours_50 : decode cX7_inHours 50 = .ok (.istore 4, 2) := by decide +kernel
theorem dX7_inHours_52 : decode cX7_inHours 52 = .ok (.iconst 0, 1) := by decide +kernel
theorem dX7_inHours_53 : decode cX7_inHours 53 = .ok (.istore 5, 2) := by decide +kernel
theorem dX7_inHours_55 : decode cX7_inHours 55 = .ok (.iload 5, 2) := by decide +kernel
theorem dX7_inHours_57 : decode cX7_inHours 57 = .ok (.iload_n 1, 1) := by decide +kernel
theorem dX7_inHours_58 : decode cX7_inHours 58 = .ok (.if_icmp .ge 48, 3) := by decide +kernel
theorem dX7_inHours_61 : decode cX7_inHours 61 = .ok (.aload_n 0, 1) := by decide +kernel
theorem dX7_inHours_62 : decode cX7_inHours 62 = .ok (.iload_n 2, 1) := by decide +kernel
theorem dX7_inHours_63 : decode cX7_inHours 63 = .ok (.invokevirtual 168, 3) := by decide +kernel
theorem dX7_inHours_66 : decode cX7_inHours 66 = .ok (.aload_n 0, 1) := by decide +kernel
theorem dX7_inHours_67 : decode cX7_inHours 67 = .ok (.aload_n 0, 1) := by decide +kernel
theorem dX7_inHours_68 : decode cX7_inHours 68 = .ok (.getfield 28, 3) := by decide +kernel
theorem dX7_inHours_71 : decode cX7_inHours 71 = .ok (.invokevirtual 139, 3) := by decide +kernel
theorem dX7_inHours_74 : decode cX7_inHours 74 = .ok (.invokestatic 151, 3) := by decide +kernel
theorem dX7_inHours_77 : decode cX7_inHours 77 = .ok (.iload 4, 2) := by decide +kernel
theorem dX7_inHours_79 : decode cX7_inHours 79 = .ok (.if_icmp .le 17, 3) := by decide +kernel
theorem dX7_inHours_82 : decode cX7_inHours 82 = .ok (.aload_n 0, 1) := by decide +kernel
theorem dX7_inHours_83 : decode cX7_inHours 83 = .ok (.aload_n 0, 1) := by decide +kernel
theorem dX7_inHours_84 : decode cX7_inHours 84 = .ok (.getfield 28, 3) := by decide +kernel
theorem dX7_inHours_87 : decode cX7_inHours 87 = .ok (.invokevirtual 139, 3) := by decide +kernel
theorem dX7_inHours_90 : decode cX7_inHours 90 = .ok (.invokestatic 151, 3) := by decide +kernel
theorem dX7_inHours_93 : decode cX7_inHours 93 = .ok (.goto 5, 3) := by decide +kernel
theorem dX7_inHours_96 : decode cX7_inHours 96 = .ok (.iload 4, 2) := by decide +kernel
theorem dX7_inHours_98 : decode cX7_inHours 98 = .ok (.istore 4, 2) := by decide +kernel
theorem dX7_inHours_100 : decode cX7_inHours 100 = .ok (.iinc 5 1, 3) := by decide +kernel
theorem dX7_inHours_103 : decode cX7_inHours 103 = .ok (.goto (-48), 3) := by decide +kernel
theorem dX7_inHours_106 : decode cX7_inHours 106 = .ok (.iconst 0, 1) := by decide +kernel
theorem dX7_inHours_107 : decode cX7_inHours 107 = .ok (.istore 5, 2) := by decide +kernel
theorem dX7_inHours_109 : decode cX7_inHours 109 = .ok (.iconst 0, 1) := by decide +kernel
theorem dX7_inHours_110 : decode cX7_inHours 110 = .ok (.istore 6, 2) := by decide +kernel
theorem dX7_inHours_112 : decode cX7_inHours 112 = .ok (.iload 6, 2) := by decide +kernel
theorem dX7_inHours_114 : decode cX7_inHours 114 = .ok (.aload_n 0, 1) := by decide +kernel
theorem dX7_inHours_115 : decode cX7_inHours 115 = .ok (.getfield 13, 3) := by decide +kernel
theorem dX7_inHours_118 : decode cX7_inHours 118 = .ok (.iconst 1, 1) := by decide +kernel
theorem dX7_inHours_119 : decode cX7_inHours 119 = .ok (.iaload, 1) := by decide +kernel
theorem dX7_inHours_120 : decode cX7_inHours 120 = .ok (.if_icmp .ge 39, 3) := by decide +kernel
theorem dX7_inHours_123 : decode cX7_inHours 123 = .ok (.aload_n 0, 1) := by decide +kernel
theorem dX7_inHours_124 : decode cX7_inHours 124 = .ok (.getfield 28, 3) := by decide +kernel
theorem dX7_inHours_127 : decode cX7_inHours 127 = .ok (.iconst 1, 1) := by decide +kernel
theorem dX7_inHours_128 : decode cX7_inHours 128 = .ok (.iload 6, 2) := by decide +kernel
theorem dX7_inHours_130 : decode cX7_inHours 130 = .ok (.iadd, 1) := by decide +kernel
theorem dX7_inHours_131 : decode cX7_inHours 131 = .ok (.iaload, 1) := by decide +kernel
theorem dX7_inHours_132 : decode cX7_inHours 132 = .ok (.iload 5, 2) := by decide +kernel
theorem dX7_inHours_134 : decode cX7_inHours 134 = .ok (.if_icmp .le 15, 3) := by decide +kernel
theorem dX7_inHours_137 : decode cX7_inHours 137 = .ok (.aload_n 0, 1) := by decide +kernel
theorem dX7_inHours_138 : decode cX7_inHours 138 = .ok (.getfield 28, 3) := by decide +kernel
theorem dX7_inHours_141 : decode cX7_inHours 141 = .ok (.iconst 1, 1) := by decide +kernel
theorem dX7_inHours_142 : decode cX7_inHours 142 = .ok (.iload 6, 2) := by decide +kernel
theorem dX7_inHours_144 : decode cX7_inHours 144 = .ok (.iadd, 1) := by decide +kernel
theorem dX7_inHours_145 : decode cX7_inHours 145 = .ok (.iaload, 1) := by decide +kernel
theorem dX7_inHours_146 : decode cX7_inHours 146 = .ok (.goto 5, 3) := by decide +kernel
theorem dX7_inHours_149 : decode cX7_inHours 149 = .ok (.iload 5, 2) := by decide +kernel
theorem dX7_inHours_151 : decode cX7_inHours 151 = .ok (.istore 5, 2) := by decide +kernel
theorem dX7_inHours_153 : decode cX7_inHours 153 = .ok (.iinc 6 1, 3) := by decide +kernel
theorem dX7_inHours_156 : decode cX7_inHours 156 = .ok (.goto (-44), 3) := by decide +kernel
theorem dX7_inHours_159 : decode cX7_inHours 159 = .ok (.iload_n 3, 1) := by decide +kernel
theorem dX7_inHours_160 : decode cX7_inHours 160 = .ok (.ifCond .ne 14, 3) := by decide +kernel
theorem dX7_inHours_163 : decode cX7_inHours 163 = .ok (.aload_n 0, 1) := by decide +kernel
theorem dX7_inHours_164 : decode cX7_inHours 164 = .ok (.aload_n 0, 1) := by decide +kernel
theorem dX7_inHours_165 : decode cX7_inHours 165 = .ok (.getfield 28, 3) := by decide +kernel
theorem dX7_inHours_168 : decode cX7_inHours 168 = .ok (.invokevirtual 139, 3) := by decide +kernel
theorem dX7_inHours_171 : decode cX7_inHours 171 = .ok (.goto 15, 3) := by decide +kernel
theorem dX7_inHours_174 : decode cX7_inHours 174 = .ok (.iload_n 3, 1) := by decide +kernel
theorem dX7_inHours_175 : decode cX7_inHours 175 = .ok (.iconst 1, 1) := by decide +kernel
theorem dX7_inHours_176 : decode cX7_inHours 176 = .ok (.if_icmp .ne 8, 3) := by decide +kernel
theorem dX7_inHours_179 : decode cX7_inHours 179 = .ok (.iload 4, 2) := by decide +kernel
theorem dX7_inHours_181 : decode cX7_inHours 181 = .ok (.goto 5, 3) := by decide +kernel
theorem dX7_inHours_184 : decode cX7_inHours 184 = .ok (.iload 5, 2) := by decide +kernel
theorem dX7_inHours_186 : decode cX7_inHours 186 = .ok (.ireturn, 1) := by decide +kernel
theorem dX7_debtStanding_0 : decode cX7_debtStanding 0 = .ok (.iconst 0, 1) := by decide +kernel
theorem dX7_debtStanding_1 : decode cX7_debtStanding 1 = .ok (.istore_n 2, 1) := by decide +kernel
theorem dX7_debtStanding_2 : decode cX7_debtStanding 2 = .ok (.iconst 0, 1) := by decide +kernel
theorem dX7_debtStanding_3 : decode cX7_debtStanding 3 = .ok (.istore_n 3, 1) := by decide +kernel
theorem dX7_debtStanding_4 : decode cX7_debtStanding 4 = .ok (.iload_n 3, 1) := by decide +kernel
theorem dX7_debtStanding_5 : decode cX7_debtStanding 5 = .ok (.aload_n 0, 1) := by decide +kernel
theorem dX7_debtStanding_6 : decode cX7_debtStanding 6 = .ok (.getfield 13, 3) := by decide +kernel
theorem dX7_debtStanding_9 : decode cX7_debtStanding 9 = .ok (.iconst 1, 1) := by decide +kernel
theorem dX7_debtStanding_10 : decode cX7_debtStanding 10 = .ok (.iaload, 1) := by decide +kernel
theorem dX7_debtStanding_11 : decode cX7_debtStanding 11 = .ok (.if_icmp .ge 30, 3) := by decide +kernel
theorem dX7_debtStanding_14 : decode cX7_debtStanding 14 = .ok (.iload_n 2, 1) := by decide +kernel
theorem dX7_debtStanding_15 : decode cX7_debtStanding 15 = .ok (.aload_n 1, 1) := by decide +kernel
theorem dX7_debtStanding_16 : decode cX7_debtStanding 16 = .ok (.bipush 7, 2) := by decide +kernel
theorem dX7_debtStanding_18 : decode cX7_debtStanding 18 = .ok (.iload_n 3, 1) := by decide +kernel
theorem dX7_debtStanding_19 : decode cX7_debtStanding 19 = .ok (.iadd, 1) := by decide +kernel
theorem dX7_debtStanding_20 : decode cX7_debtStanding 20 = .ok (.iaload, 1) := by decide +kernel
theorem dX7_debtStanding_21 : decode cX7_debtStanding 21 = .ok (.ifCond .le 11, 3) := by decide +kernel
theorem dX7_debtStanding_24 : decode cX7_debtStanding 24 = .ok (.aload_n 1, 1) := by decide +kernel
theorem dX7_debtStanding_25 : decode cX7_debtStanding 25 = .ok (.iconst 1, 1) := by decide +kernel
theorem dX7_debtStanding_26 : decode cX7_debtStanding 26 = .ok (.iload_n 3, 1) := by decide +kernel
theorem dX7_debtStanding_27 : decode cX7_debtStanding 27 = .ok (.iadd, 1) := by decide +kernel
theorem dX7_debtStanding_28 : decode cX7_debtStanding 28 = .ok (.iaload, 1) := by decide +kernel
theorem dX7_debtStanding_29 : decode cX7_debtStanding 29 = .ok (.goto 4, 3) := by decide +kernel
theorem dX7_debtStanding_32 : decode cX7_debtStanding 32 = .ok (.iconst 0, 1) := by decide +kernel
theorem dX7_debtStanding_33 : decode cX7_debtStanding 33 = .ok (.iadd, 1) := by decide +kernel
theorem dX7_debtStanding_34 : decode cX7_debtStanding 34 = .ok (.istore_n 2, 1) := by decide +kernel
theorem dX7_debtStanding_35 : decode cX7_debtStanding 35 = .ok (.iinc 3 1, 3) := by decide +kernel
theorem dX7_debtStanding_38 : decode cX7_debtStanding 38 = .ok (.goto (-34), 3) := by decide +kernel
theorem dX7_debtStanding_41 : decode cX7_debtStanding 41 = .ok (.iload_n 2, 1) := by decide +kernel
theorem dX7_debtStanding_42 : decode cX7_debtStanding 42 = .ok (.ireturn, 1) := by decide +kernel
theorem dX7_round_0 : decode cX7_round 0 = .ok (.aload_n 0, 1) := by decide +kernel
theorem dX7_round_1 : decode cX7_round 1 = .ok (.iconst 0, 1) := by decide +kernel
theorem dX7_round_2 : decode cX7_round 2 = .ok (.putfield 56, 3) := by decide +kernel
theorem dX7_round_5 : decode cX7_round 5 = .ok (.iload_n 1, 1) := by decide +kernel
theorem dX7_round_6 : decode cX7_round 6 = .ok (.iconst 0, 1) := by decide +kernel
theorem dX7_round_7 : decode cX7_round 7 = .ok (.iconst 1, 1) := by decide +kernel
theorem dX7_round_8 : decode cX7_round 8 = .ok (.invokestatic 60, 3) := by decide +kernel
theorem dX7_round_11 : decode cX7_round 11 = .ok (.ifCond .ne 5, 3) := by decide +kernel
theorem dX7_round_14 : decode cX7_round 14 = .ok (.iconst (-1), 1) := by decide +kernel
theorem dX7_round_15 : decode cX7_round 15 = .ok (.ireturn, 1) := by decide +kernel
theorem dX7_round_16 : decode cX7_round 16 = .ok (.bipush (-9), 2) := by decide +kernel
theorem dX7_round_18 : decode cX7_round 18 = .ok (.istore_n 2, 1) := by decide +kernel
theorem dX7_round_19 : decode cX7_round 19 = .ok (.ldc 171, 2) := by decide +kernel
theorem dX7_round_21 : decode cX7_round 21 = .ok (.istore_n 3, 1) := by decide +kernel
theorem dX7_round_22 : decode cX7_round 22 = .ok (.iconst 0, 1) := by decide +kernel
theorem dX7_round_23 : decode cX7_round 23 = .ok (.istore 4, 2) := by decide +kernel
theorem dX7_round_25 : decode cX7_round 25 = .ok (.iload 4, 2) := by decide +kernel
theorem dX7_round_27 : decode cX7_round 27 = .ok (.iconst 2, 1) := by decide +kernel
theorem dX7_round_28 : decode cX7_round 28 = .ok (.aload_n 0, 1) := by decide +kernel
theorem dX7_round_29 : decode cX7_round 29 = .ok (.getfield 13, 3) := by decide +kernel
theorem dX7_round_32 : decode cX7_round 32 = .ok (.iconst 0, 1) := by decide +kernel
theorem dX7_round_33 : decode cX7_round 33 = .ok (.iaload, 1) := by decide +kernel
theorem dX7_round_34 : decode cX7_round 34 = .ok (.imul, 1) := by decide +kernel
theorem dX7_round_35 : decode cX7_round 35 = .ok (.if_icmp .ge 100, 3) := by decide +kernel
theorem dX7_round_38 : decode cX7_round 38 = .ok (.iload 4, 2) := by decide +kernel
theorem dX7_round_40 : decode cX7_round 40 = .ok (.aload_n 0, 1) := by decide +kernel
theorem dX7_round_41 : decode cX7_round 41 = .ok (.getfield 13, 3) := by decide +kernel
theorem dX7_round_44 : decode cX7_round 44 = .ok (.iconst 0, 1) := by decide +kernel
theorem dX7_round_45 : decode cX7_round 45 = .ok (.iaload, 1) := by decide +kernel
theorem dX7_round_46 : decode cX7_round 46 = .ok (.if_icmp .ge 7, 3) := by decide +kernel
theorem dX7_round_49 : decode cX7_round 49 = .ok (.iconst 1, 1) := by decide +kernel
theorem dX7_round_50 : decode cX7_round 50 = .ok (.goto 4, 3) := by decide +kernel
theorem dX7_round_53 : decode cX7_round 53 = .ok (.iconst 0, 1) := by decide +kernel
theorem dX7_round_54 : decode cX7_round 54 = .ok (.istore 5, 2) := by decide +kernel
theorem dX7_round_56 : decode cX7_round 56 = .ok (.aload_n 0, 1) := by decide +kernel
theorem dX7_round_57 : decode cX7_round 57 = .ok (.invokevirtual 165, 3) := by decide +kernel
theorem dX7_round_60 : decode cX7_round 60 = .ok (.aload_n 0, 1) := by decide +kernel
theorem dX7_round_61 : decode cX7_round 61 = .ok (.aload_n 0, 1) := by decide +kernel
theorem dX7_round_62 : decode cX7_round 62 = .ok (.getfield 28, 3) := by decide +kernel
theorem dX7_round_65 : decode cX7_round 65 = .ok (.iload 4, 2) := by decide +kernel
theorem dX7_round_67 : decode cX7_round 67 = .ok (.aload_n 0, 1) := by decide +kernel
theorem dX7_round_68 : decode cX7_round 68 = .ok (.getfield 13, 3) := by decide +kernel
theorem dX7_round_71 : decode cX7_round 71 = .ok (.iconst 0, 1) := by decide +kernel
theorem dX7_round_72 : decode cX7_round 72 = .ok (.iaload, 1) := by decide +kernel
theorem dX7_round_73 : decode cX7_round 73 = .ok (.irem, 1) := by decide +kernel
theorem dX7_round_74 : decode cX7_round 74 = .ok (.iload 5, 2) := by decide +kernel
theorem dX7_round_76 : decode cX7_round 76 = .ok (.invokevirtual 161, 3) := by decide +kernel
theorem dX7_round_79 : decode cX7_round 79 = .ok (.pop, 1) := by decide +kernel
theorem dX7_round_80 : decode cX7_round 80 = .ok (.aload_n 0, 1) := by decide +kernel
theorem dX7_round_81 : decode cX7_round 81 = .ok (.aload_n 0, 1) := by decide +kernel
theorem dX7_round_82 : decode cX7_round 82 = .ok (.getfield 28, 3) := by decide +kernel
theorem dX7_round_85 : decode cX7_round 85 = .ok (.invokevirtual 172, 3) := by decide +kernel
theorem dX7_round_88 : decode cX7_round 88 = .ok (.istore 6, 2) := by decide +kernel
theorem dX7_round_90 : decode cX7_round 90 = .ok (.iload 6, 2) := by decide +kernel
theorem dX7_round_92 : decode cX7_round 92 = .ok (.iload_n 3, 1) := by decide +kernel
theorem dX7_round_93 : decode cX7_round 93 = .ok (.if_icmp .ge 21, 3) := by decide +kernel
theorem dX7_round_96 : decode cX7_round 96 = .ok (.bipush 10, 2) := by decide +kernel
theorem dX7_round_98 : decode cX7_round 98 = .ok (.iload 5, 2) := by decide +kernel
theorem dX7_round_100 : decode cX7_round 100 = .ok (.imul, 1) := by decide +kernel
theorem dX7_round_101 : decode cX7_round 101 = .ok (.iload 4, 2) := by decide +kernel
theorem dX7_round_103 : decode cX7_round 103 = .ok (.aload_n 0, 1) := by decide +kernel
theorem dX7_round_104 : decode cX7_round 104 = .ok (.getfield 13, 3) := by decide +kernel
theorem dX7_round_107 : decode cX7_round 107 = .ok (.iconst 0, 1) := by decide +kernel
theorem dX7_round_108 : decode cX7_round 108 = .ok (.iaload, 1) := by decide +kernel
theorem dX7_round_109 : decode cX7_round 109 = .ok (.irem, 1) := by decide +kernel
theorem dX7_round_110 : decode cX7_round 110 = .ok (.iadd, 1) := by decide +kernel
theorem dX7_round_111 : decode cX7_round 111 = .ok (.goto 4, 3) := by decide +kernel
theorem dX7_round_114 : decode cX7_round 114 = .ok (.iload_n 2, 1) := by decide +kernel
theorem dX7_round_115 : decode cX7_round 115 = .ok (.istore_n 2, 1) := by decide +kernel
theorem dX7_round_116 : decode cX7_round 116 = .ok (.iload 6, 2) := by decide +kernel
theorem dX7_round_118 : decode cX7_round 118 = .ok (.iload_n 3, 1) := by decide +kernel
theorem dX7_round_119 : decode cX7_round 119 = .ok (.if_icmp .ge 8, 3) := by decide +kernel
theorem dX7_round_122 : decode cX7_round 122 = .ok (.iload 6, 2) := by decide +kernel
theorem dX7_round_124 : decode cX7_round 124 = .ok (.goto 4, 3) := by decide +kernel
theorem dX7_round_127 : decode cX7_round 127 = .ok (.iload_n 3, 1) := by decide +kernel
theorem dX7_round_128 : decode cX7_round 128 = .ok (.istore_n 3, 1) := by decide +kernel
theorem dX7_round_129 : decode cX7_round 129 = .ok (.iinc 4 1, 3) := by decide +kernel
theorem dX7_round_132 : decode cX7_round 132 = .ok (.goto (-107), 3) := by decide +kernel
theorem dX7_round_135 : decode cX7_round 135 = .ok (.iload_n 2, 1) := by decide +kernel
theorem dX7_round_136 : decode cX7_round 136 = .ok (.bipush (-9), 2) := by decide +kernel
theorem dX7_round_138 : decode cX7_round 138 = .ok (.if_icmp .eq 7, 3) := by decide +kernel
theorem dX7_round_141 : decode cX7_round 141 = .ok (.iload_n 1, 1) := by decide +kernel
theorem dX7_round_142 : decode cX7_round 142 = .ok (.ifCond .ne 7, 3) := by decide +kernel
theorem dX7_round_145 : decode cX7_round 145 = .ok (.iload_n 2, 1) := by decide +kernel
theorem dX7_round_146 : decode cX7_round 146 = .ok (.goto 4, 3) := by decide +kernel
theorem dX7_round_149 : decode cX7_round 149 = .ok (.iload_n 3, 1) := by decide +kernel
theorem dX7_round_150 : decode cX7_round 150 = .ok (.ireturn, 1) := by decide +kernel
theorem dX7_greatest_0 : decode cX7_greatest 0 = .ok (.aload_n 0, 1) := by decide +kernel
theorem dX7_greatest_1 : decode cX7_greatest 1 = .ok (.invokevirtual 165, 3) := by decide +kernel
theorem dX7_greatest_4 : decode cX7_greatest 4 = .ok (.iconst 0, 1) := by decide +kernel
theorem dX7_greatest_5 : decode cX7_greatest 5 = .ok (.istore_n 1, 1) := by decide +kernel
theorem dX7_greatest_6 : decode cX7_greatest 6 = .ok (.iload_n 1, 1) := by decide +kernel
theorem dX7_greatest_7 : decode cX7_greatest 7 = .ok (.aload_n 0, 1) := by decide +kernel
theorem dX7_greatest_8 : decode cX7_greatest 8 = .ok (.getfield 13, 3) := by decide +kernel
theorem dX7_greatest_11 : decode cX7_greatest 11 = .ok (.iconst 1, 1) := by decide +kernel
theorem dX7_greatest_12 : decode cX7_greatest 12 = .ok (.iaload, 1) := by decide +kernel
theorem dX7_greatest_13 : decode cX7_greatest 13 = .ok (.if_icmp .ge 19, 3) := by decide +kernel
theorem dX7_greatest_16 : decode cX7_greatest 16 = .ok (.aload_n 0, 1) := by decide +kernel
theorem dX7_greatest_17 : decode cX7_greatest 17 = .ok (.getfield 28, 3) := by decide +kernel
theorem dX7_greatest_20 : decode cX7_greatest 20 = .ok (.bipush 7, 2) := by decide +kernel
theorem dX7_greatest_22 : decode cX7_greatest 22 = .ok (.iload_n 1, 1) := by decide +kernel
theorem dX7_greatest_23 : decode cX7_greatest 23 = .ok (.iadd, 1) := by decide +kernel
theorem dX7_greatest_24 : decode cX7_greatest 24 = .ok (.iconst 0, 1) := by decide +kernel
theorem dX7_greatest_25 : decode cX7_greatest 25 = .ok (.iastore, 1) := by decide +kernel
theorem dX7_greatest_26 : decode cX7_greatest 26 = .ok (.iinc 1 1, 3) := by decide +kernel
theorem dX7_greatest_29 : decode cX7_greatest 29 = .ok (.goto (-23), 3) := by decide +kernel
theorem dX7_greatest_32 : decode cX7_greatest 32 = .ok (.iconst 0, 1) := by decide +kernel
theorem dX7_greatest_33 : decode cX7_greatest 33 = .ok (.istore_n 1, 1) := by decide +kernel
theorem dX7_greatest_34 : decode cX7_greatest 34 = .ok (.iload_n 1, 1) := by decide +kernel
theorem dX7_greatest_35 : decode cX7_greatest 35 = .ok (.aload_n 0, 1) := by decide +kernel
theorem dX7_greatest_36 : decode cX7_greatest 36 = .ok (.getfield 13, 3) := by decide +kernel
theorem dX7_greatest_39 : decode cX7_greatest 39 = .ok (.iconst 0, 1) := by decide +kernel
theorem dX7_greatest_40 : decode cX7_greatest 40 = .ok (.iaload, 1) := by decide +kernel
theorem dX7_greatest_41 : decode cX7_greatest 41 = .ok (.if_icmp .ge 26, 3) := by decide +kernel
theorem dX7_greatest_44 : decode cX7_greatest 44 = .ok (.aload_n 0, 1) := by decide +kernel
theorem dX7_greatest_45 : decode cX7_greatest 45 = .ok (.getfield 28, 3) := by decide +kernel
theorem dX7_greatest_48 : decode cX7_greatest 48 = .ok (.bipush 7, 2) := by decide +kernel
theorem dX7_greatest_50 : decode cX7_greatest 50 = .ok (.aload_n 0, 1) := by decide +kernel
theorem dX7_greatest_51 : decode cX7_greatest 51 = .ok (.getfield 50, 3) := by decide +kernel
theorem dX7_greatest_54 : decode cX7_greatest 54 = .ok (.iload_n 1, 1) := by decide +kernel
theorem dX7_greatest_55 : decode cX7_greatest 55 = .ok (.iaload, 1) := by decide +kernel
theorem dX7_greatest_56 : decode cX7_greatest 56 = .ok (.iadd, 1) := by decide +kernel
theorem dX7_greatest_57 : decode cX7_greatest 57 = .ok (.iload_n 1, 1) := by decide +kernel
theorem dX7_greatest_58 : decode cX7_greatest 58 = .ok (.iconst 1, 1) := by decide +kernel
theorem dX7_greatest_59 : decode cX7_greatest 59 = .ok (.iadd, 1) := by decide +kernel
theorem dX7_greatest_60 : decode cX7_greatest 60 = .ok (.iastore, 1) := by decide +kernel
theorem dX7_greatest_61 : decode cX7_greatest 61 = .ok (.iinc 1 1, 3) := by decide +kernel
theorem dX7_greatest_64 : decode cX7_greatest 64 = .ok (.goto (-30), 3) := by decide +kernel
theorem dX7_greatest_67 : decode cX7_greatest 67 = .ok (.iconst 0, 1) := by decide +kernel
theorem dX7_greatest_68 : decode cX7_greatest 68 = .ok (.istore_n 1, 1) := by decide +kernel
theorem dX7_greatest_69 : decode cX7_greatest 69 = .ok (.iload_n 1, 1) := by decide +kernel
theorem dX7_greatest_70 : decode cX7_greatest 70 = .ok (.aload_n 0, 1) := by decide +kernel
theorem dX7_greatest_71 : decode cX7_greatest 71 = .ok (.getfield 13, 3) := by decide +kernel
theorem dX7_greatest_74 : decode cX7_greatest 74 = .ok (.iconst 2, 1) := by decide +kernel
theorem dX7_greatest_75 : decode cX7_greatest 75 = .ok (.iaload, 1) := by decide +kernel
theorem dX7_greatest_76 : decode cX7_greatest 76 = .ok (.if_icmp .ge 17, 3) := by decide +kernel
theorem dX7_greatest_79 : decode cX7_greatest 79 = .ok (.aload_n 0, 1) := by decide +kernel
theorem dX7_greatest_80 : decode cX7_greatest 80 = .ok (.aload_n 0, 1) := by decide +kernel
theorem dX7_greatest_81 : decode cX7_greatest 81 = .ok (.getfield 28, 3) := by decide +kernel
theorem dX7_greatest_84 : decode cX7_greatest 84 = .ok (.invokevirtual 154, 3) := by decide +kernel
theorem dX7_greatest_87 : decode cX7_greatest 87 = .ok (.iinc 1 1, 3) := by decide +kernel
theorem dX7_greatest_90 : decode cX7_greatest 90 = .ok (.goto (-21), 3) := by decide +kernel
theorem dX7_greatest_93 : decode cX7_greatest 93 = .ok (.iconst 0, 1) := by decide +kernel
theorem dX7_greatest_94 : decode cX7_greatest 94 = .ok (.istore_n 1, 1) := by decide +kernel
theorem dX7_greatest_95 : decode cX7_greatest 95 = .ok (.iconst 0, 1) := by decide +kernel
theorem dX7_greatest_96 : decode cX7_greatest 96 = .ok (.istore_n 2, 1) := by decide +kernel
theorem dX7_greatest_97 : decode cX7_greatest 97 = .ok (.iload_n 2, 1) := by decide +kernel
theorem dX7_greatest_98 : decode cX7_greatest 98 = .ok (.aload_n 0, 1) := by decide +kernel
theorem dX7_greatest_99 : decode cX7_greatest 99 = .ok (.getfield 13, 3) := by decide +kernel
theorem dX7_greatest_102 : decode cX7_greatest 102 = .ok (.iconst 0, 1) := by decide +kernel
theorem dX7_greatest_103 : decode cX7_greatest 103 = .ok (.iaload, 1) := by decide +kernel
theorem dX7_greatest_104 : decode cX7_greatest 104 = .ok (.if_icmp .ge 44, 3) := by decide +kernel
theorem dX7_greatest_107 : decode cX7_greatest 107 = .ok (.aload_n 0, 1) := by decide +kernel
theorem dX7_greatest_108 : decode cX7_greatest 108 = .ok (.getfield 28, 3) := by decide +kernel
theorem dX7_greatest_111 : decode cX7_greatest 111 = .ok (.iconst 1, 1) := by decide +kernel
theorem dX7_greatest_112 : decode cX7_greatest 112 = .ok (.aload_n 0, 1) := by decide +kernel
theorem dX7_greatest_113 : decode cX7_greatest 113 = .ok (.getfield 50, 3) := by decide +kernel
theorem dX7_greatest_116 : decode cX7_greatest 116 = .ok (.iload_n 2, 1) := by decide +kernel
theorem dX7_greatest_117 : decode cX7_greatest 117 = .ok (.iaload, 1) := by decide +kernel
theorem dX7_greatest_118 : decode cX7_greatest 118 = .ok (.iadd, 1) := by decide +kernel
theorem dX7_greatest_119 : decode cX7_greatest 119 = .ok (.iaload, 1) := by decide +kernel
theorem dX7_greatest_120 : decode cX7_greatest 120 = .ok (.iload_n 1, 1) := by decide +kernel
theorem dX7_greatest_121 : decode cX7_greatest 121 = .ok (.if_icmp .le 19, 3) := by decide +kernel
theorem dX7_greatest_124 : decode cX7_greatest 124 = .ok (.aload_n 0, 1) := by decide +kernel
theorem dX7_greatest_125 : decode cX7_greatest 125 = .ok (.getfield 28, 3) := by decide +kernel
theorem dX7_greatest_128 : decode cX7_greatest 128 = .ok (.iconst 1, 1) := by decide +kernel
theorem dX7_greatest_129 : decode cX7_greatest 129 = .ok (.aload_n 0, 1) := by decide +kernel
theorem dX7_greatest_130 : decode cX7_greatest 130 = .ok (.getfield 50, 3) := by decide +kernel
theorem dX7_greatest_133 : decode cX7_greatest 133 = .ok (.iload_n 2, 1) := by decide +kernel
theorem dX7_greatest_134 : decode cX7_greatest 134 = .ok (.iaload, 1) := by decide +kernel
theorem dX7_greatest_135 : decode cX7_greatest 135 = .ok (.iadd, 1) := by decide +kernel
theorem dX7_greatest_136 : decode cX7_greatest 136 = .ok (.iaload, 1) := by decide +kernel
theorem dX7_greatest_137 : decode cX7_greatest 137 = .ok (.goto 4, 3) := by decide +kernel
theorem dX7_greatest_140 : decode cX7_greatest 140 = .ok (.iload_n 1, 1) := by decide +kernel
theorem dX7_greatest_141 : decode cX7_greatest 141 = .ok (.istore_n 1, 1) := by decide +kernel
theorem dX7_greatest_142 : decode cX7_greatest 142 = .ok (.iinc 2 1, 3) := by decide +kernel
theorem dX7_greatest_145 : decode cX7_greatest 145 = .ok (.goto (-48), 3) := by decide +kernel
theorem dX7_greatest_148 : decode cX7_greatest 148 = .ok (.iload_n 1, 1) := by decide +kernel
theorem dX7_greatest_149 : decode cX7_greatest 149 = .ok (.ireturn, 1) := by decide +kernel
theorem dX7_isRow_0 : decode cX7_isRow 0 = .ok (.iload_n 1, 1) := by decide +kernel
theorem dX7_isRow_1 : decode cX7_isRow 1 = .ok (.istore_n 2, 1) := by decide +kernel
theorem dX7_isRow_2 : decode cX7_isRow 2 = .ok (.iconst 0, 1) := by decide +kernel
theorem dX7_isRow_3 : decode cX7_isRow 3 = .ok (.istore_n 3, 1) := by decide +kernel
theorem dX7_isRow_4 : decode cX7_isRow 4 = .ok (.iconst 1, 1) := by decide +kernel
theorem dX7_isRow_5 : decode cX7_isRow 5 = .ok (.istore 4, 2) := by decide +kernel
theorem dX7_isRow_7 : decode cX7_isRow 7 = .ok (.aload_n 0, 1) := by decide +kernel
theorem dX7_isRow_8 : decode cX7_isRow 8 = .ok (.getfield 13, 3) := by decide +kernel
theorem dX7_isRow_11 : decode cX7_isRow 11 = .ok (.iconst 0, 1) := by decide +kernel
theorem dX7_isRow_12 : decode cX7_isRow 12 = .ok (.iaload, 1) := by decide +kernel
theorem dX7_isRow_13 : decode cX7_isRow 13 = .ok (.iconst 1, 1) := by decide +kernel
theorem dX7_isRow_14 : decode cX7_isRow 14 = .ok (.isub, 1) := by decide +kernel
theorem dX7_isRow_15 : decode cX7_isRow 15 = .ok (.istore 5, 2) := by decide +kernel
theorem dX7_isRow_17 : decode cX7_isRow 17 = .ok (.iload 5, 2) := by decide +kernel
theorem dX7_isRow_19 : decode cX7_isRow 19 = .ok (.ifCond .lt 71, 3) := by decide +kernel
theorem dX7_isRow_22 : decode cX7_isRow 22 = .ok (.aload_n 0, 1) := by decide +kernel
theorem dX7_isRow_23 : decode cX7_isRow 23 = .ok (.getfield 50, 3) := by decide +kernel
theorem dX7_isRow_26 : decode cX7_isRow 26 = .ok (.iload 5, 2) := by decide +kernel
theorem dX7_isRow_28 : decode cX7_isRow 28 = .ok (.iload_n 2, 1) := by decide +kernel
theorem dX7_isRow_29 : decode cX7_isRow 29 = .ok (.aload_n 0, 1) := by decide +kernel
theorem dX7_isRow_30 : decode cX7_isRow 30 = .ok (.getfield 13, 3) := by decide +kernel
theorem dX7_isRow_33 : decode cX7_isRow 33 = .ok (.iconst 1, 1) := by decide +kernel
theorem dX7_isRow_34 : decode cX7_isRow 34 = .ok (.iaload, 1) := by decide +kernel
theorem dX7_isRow_35 : decode cX7_isRow 35 = .ok (.irem, 1) := by decide +kernel
theorem dX7_isRow_36 : decode cX7_isRow 36 = .ok (.iastore, 1) := by decide +kernel
theorem dX7_isRow_37 : decode cX7_isRow 37 = .ok (.iload_n 2, 1) := by decide +kernel
theorem dX7_isRow_38 : decode cX7_isRow 38 = .ok (.aload_n 0, 1) := by decide +kernel
theorem dX7_isRow_39 : decode cX7_isRow 39 = .ok (.getfield 13, 3) := by decide +kernel
theorem dX7_isRow_42 : decode cX7_isRow 42 = .ok (.iconst 1, 1) := by decide +kernel
theorem dX7_isRow_43 : decode cX7_isRow 43 = .ok (.iaload, 1) := by decide +kernel
theorem dX7_isRow_44 : decode cX7_isRow 44 = .ok (.idiv, 1) := by decide +kernel
theorem dX7_isRow_45 : decode cX7_isRow 45 = .ok (.istore_n 2, 1) := by decide +kernel
theorem dX7_isRow_46 : decode cX7_isRow 46 = .ok (.iload 4, 2) := by decide +kernel
theorem dX7_isRow_48 : decode cX7_isRow 48 = .ok (.ifCond .eq 21, 3) := by decide +kernel
theorem dX7_isRow_51 : decode cX7_isRow 51 = .ok (.iload_n 3, 1) := by decide +kernel
theorem dX7_isRow_52 : decode cX7_isRow 52 = .ok (.aload_n 0, 1) := by decide +kernel
theorem dX7_isRow_53 : decode cX7_isRow 53 = .ok (.getfield 50, 3) := by decide +kernel
theorem dX7_isRow_56 : decode cX7_isRow 56 = .ok (.iload 5, 2) := by decide +kernel
theorem dX7_isRow_58 : decode cX7_isRow 58 = .ok (.iaload, 1) := by decide +kernel
theorem dX7_isRow_59 : decode cX7_isRow 59 = .ok (.ishr, 1) := by decide +kernel
theorem dX7_isRow_60 : decode cX7_isRow 60 = .ok (.iconst 1, 1) := by decide +kernel
theorem dX7_isRow_61 : decode cX7_isRow 61 = .ok (.iand, 1) := by decide +kernel
theorem dX7_isRow_62 : decode cX7_isRow 62 = .ok (.ifCond .ne 7, 3) := by decide +kernel
theorem dX7_isRow_65 : decode cX7_isRow 65 = .ok (.iconst 1, 1) := by decide +kernel
theorem dX7_isRow_66 : decode cX7_isRow 66 = .ok (.goto 4, 3) := by decide +kernel
theorem dX7_isRow_69 : decode cX7_isRow 69 = .ok (.iconst 0, 1) := by decide +kernel
theorem dX7_isRow_70 : decode cX7_isRow 70 = .ok (.istore 4, 2) := by decide +kernel
theorem dX7_isRow_72 : decode cX7_isRow 72 = .ok (.iload_n 3, 1) := by decide +kernel
theorem dX7_isRow_73 : decode cX7_isRow 73 = .ok (.iconst 1, 1) := by decide +kernel
theorem dX7_isRow_74 : decode cX7_isRow 74 = .ok (.aload_n 0, 1) := by decide +kernel
theorem dX7_isRow_75 : decode cX7_isRow 75 = .ok (.getfield 50, 3) := by decide +kernel
theorem dX7_isRow_78 : decode cX7_isRow 78 = .ok (.iload 5, 2) := by decide +kernel
theorem dX7_isRow_80 : decode cX7_isRow 80 = .ok (.iaload, 1) := by decide +kernel
theorem dX7_isRow_81 : decode cX7_isRow 81 = .ok (.ishl, 1) := by decide +kernel
theorem dX7_isRow_82 : decode cX7_isRow 82 = .ok (.ior, 1) := by decide +kernel
theorem dX7_isRow_83 : decode cX7_isRow 83 = .ok (.istore_n 3, 1) := by decide +kernel
theorem dX7_isRow_84 : decode cX7_isRow 84 = .ok (.iinc 5 (-1), 3) := by decide +kernel
theorem dX7_isRow_87 : decode cX7_isRow 87 = .ok (.goto (-70), 3) := by decide +kernel
theorem dX7_isRow_90 : decode cX7_isRow 90 = .ok (.iload 4, 2) := by decide +kernel
theorem dX7_isRow_92 : decode cX7_isRow 92 = .ok (.ireturn, 1) := by decide +kernel
theorem dX7_rota_0 : decode cX7_rota 0 = .ok (.aload_n 0, 1) := by decide +kernel
theorem dX7_rota_1 : decode cX7_rota 1 = .ok (.iconst 0, 1) := by decide +kernel
theorem dX7_rota_2 : decode cX7_rota 2 = .ok (.putfield 56, 3) := by decide +kernel
theorem dX7_rota_5 : decode cX7_rota 5 = .ok (.iload_n 1, 1) := by decide +kernel
theorem dX7_rota_6 : decode cX7_rota 6 = .ok (.iconst (-1), 1) := by decide +kernel
theorem dX7_rota_7 : decode cX7_rota 7 = .ok (.if_icmp .eq 13, 3) := by decide +kernel
theorem dX7_rota_10 : decode cX7_rota 10 = .ok (.aload_n 0, 1) := by decide +kernel
theorem dX7_rota_11 : decode cX7_rota 11 = .ok (.iload_n 1, 1) := by decide +kernel
theorem dX7_rota_12 : decode cX7_rota 12 = .ok (.invokevirtual 120, 3) := by decide +kernel
theorem dX7_rota_15 : decode cX7_rota 15 = .ok (.ifCond .ne 5, 3) := by decide +kernel
theorem dX7_rota_18 : decode cX7_rota 18 = .ok (.iconst (-1), 1) := by decide +kernel
theorem dX7_rota_19 : decode cX7_rota 19 = .ok (.ireturn, 1) := by decide +kernel
theorem dX7_rota_20 : decode cX7_rota 20 = .ok (.aload_n 0, 1) := by decide +kernel
theorem dX7_rota_21 : decode cX7_rota 21 = .ok (.getfield 13, 3) := by decide +kernel
theorem dX7_rota_24 : decode cX7_rota 24 = .ok (.iconst 0, 1) := by decide +kernel
theorem dX7_rota_25 : decode cX7_rota 25 = .ok (.iaload, 1) := by decide +kernel
theorem dX7_rota_26 : decode cX7_rota 26 = .ok (.ifCond .eq 18, 3) := by decide +kernel
theorem dX7_rota_29 : decode cX7_rota 29 = .ok (.aload_n 0, 1) := by decide +kernel
theorem dX7_rota_30 : decode cX7_rota 30 = .ok (.getfield 13, 3) := by decide +kernel
theorem dX7_rota_33 : decode cX7_rota 33 = .ok (.iconst 1, 1) := by decide +kernel
theorem dX7_rota_34 : decode cX7_rota 34 = .ok (.iaload, 1) := by decide +kernel
theorem dX7_rota_35 : decode cX7_rota 35 = .ok (.aload_n 0, 1) := by decide +kernel
theorem dX7_rota_36 : decode cX7_rota 36 = .ok (.getfield 13, 3) := by decide +kernel
theorem dX7_rota_39 : decode cX7_rota 39 = .ok (.iconst 0, 1) := by decide +kernel
theorem dX7_rota_40 : decode cX7_rota 40 = .ok (.iaload, 1) := by decide +kernel
theorem dX7_rota_41 : decode cX7_rota 41 = .ok (.if_icmp .ge 6, 3) := by decide +kernel
theorem dX7_rota_44 : decode cX7_rota 44 = .ok (.bipush (-9), 2) := by decide +kernel
theorem dX7_rota_46 : decode cX7_rota 46 = .ok (.ireturn, 1) := by decide +kernel
theorem dX7_rota_47 : decode cX7_rota 47 = .ok (.iconst 1, 1) := by decide +kernel
theorem dX7_rota_48 : decode cX7_rota 48 = .ok (.istore_n 2, 1) := by decide +kernel
theorem dX7_rota_49 : decode cX7_rota 49 = .ok (.ldc 171, 2) := by decide +kernel
theorem dX7_rota_51 : decode cX7_rota 51 = .ok (.istore_n 3, 1) := by decide +kernel
theorem dX7_rota_52 : decode cX7_rota 52 = .ok (.iconst 0, 1) := by decide +kernel
theorem dX7_rota_53 : decode cX7_rota 53 = .ok (.istore 4, 2) := by decide +kernel
theorem dX7_rota_55 : decode cX7_rota 55 = .ok (.iload 4, 2) := by decide +kernel
theorem dX7_rota_57 : decode cX7_rota 57 = .ok (.aload_n 0, 1) := by decide +kernel
theorem dX7_rota_58 : decode cX7_rota 58 = .ok (.getfield 13, 3) := by decide +kernel
theorem dX7_rota_61 : decode cX7_rota 61 = .ok (.iconst 0, 1) := by decide +kernel
theorem dX7_rota_62 : decode cX7_rota 62 = .ok (.iaload, 1) := by decide +kernel
theorem dX7_rota_63 : decode cX7_rota 63 = .ok (.if_icmp .ge 18, 3) := by decide +kernel
theorem dX7_rota_66 : decode cX7_rota 66 = .ok (.iload_n 2, 1) := by decide +kernel
theorem dX7_rota_67 : decode cX7_rota 67 = .ok (.aload_n 0, 1) := by decide +kernel
theorem dX7_rota_68 : decode cX7_rota 68 = .ok (.getfield 13, 3) := by decide +kernel
theorem dX7_rota_71 : decode cX7_rota 71 = .ok (.iconst 1, 1) := by decide +kernel
theorem dX7_rota_72 : decode cX7_rota 72 = .ok (.iaload, 1) := by decide +kernel
theorem dX7_rota_73 : decode cX7_rota 73 = .ok (.imul, 1) := by decide +kernel
theorem dX7_rota_74 : decode cX7_rota 74 = .ok (.istore_n 2, 1) := by decide +kernel
theorem dX7_rota_75 : decode cX7_rota 75 = .ok (.iinc 4 1, 3) := by decide +kernel
theorem dX7_rota_78 : decode cX7_rota 78 = .ok (.goto (-23), 3) := by decide +kernel
theorem dX7_rota_81 : decode cX7_rota 81 = .ok (.iconst 0, 1) := by decide +kernel
theorem dX7_rota_82 : decode cX7_rota 82 = .ok (.istore 4, 2) := by decide +kernel
theorem dX7_rota_84 : decode cX7_rota 84 = .ok (.iload 4, 2) := by decide +kernel
theorem dX7_rota_86 : decode cX7_rota 86 = .ok (.iload_n 2, 1) := by decide +kernel
theorem dX7_rota_87 : decode cX7_rota 87 = .ok (.if_icmp .ge 67, 3) := by decide +kernel
theorem dX7_rota_90 : decode cX7_rota 90 = .ok (.aload_n 0, 1) := by decide +kernel
theorem dX7_rota_91 : decode cX7_rota 91 = .ok (.iload 4, 2) := by decide +kernel
theorem dX7_rota_93 : decode cX7_rota 93 = .ok (.invokevirtual 175, 3) := by decide +kernel
theorem dX7_rota_96 : decode cX7_rota 96 = .ok (.ifCond .eq 52, 3) := by decide +kernel
theorem dX7_rota_99 : decode cX7_rota 99 = .ok (.aload_n 0, 1) := by decide +kernel
theorem dX7_rota_100 : decode cX7_rota 100 = .ok (.invokevirtual 178, 3) := by decide +kernel
theorem dX7_rota_103 : decode cX7_rota 103 = .ok (.istore 5, 2) := by decide +kernel
theorem dX7_rota_105 : decode cX7_rota 105 = .ok (.iload 5, 2) := by decide +kernel
theorem dX7_rota_107 : decode cX7_rota 107 = .ok (.iload_n 3, 1) := by decide +kernel
theorem dX7_rota_108 : decode cX7_rota 108 = .ok (.if_icmp .ge 40, 3) := by decide +kernel
theorem dX7_rota_111 : decode cX7_rota 111 = .ok (.iload 5, 2) := by decide +kernel
theorem dX7_rota_113 : decode cX7_rota 113 = .ok (.istore_n 3, 1) := by decide +kernel
theorem dX7_rota_114 : decode cX7_rota 114 = .ok (.iconst 0, 1) := by decide +kernel
theorem dX7_rota_115 : decode cX7_rota 115 = .ok (.istore 6, 2) := by decide +kernel
theorem dX7_rota_117 : decode cX7_rota 117 = .ok (.iload 6, 2) := by decide +kernel
theorem dX7_rota_119 : decode cX7_rota 119 = .ok (.aload_n 0, 1) := by decide +kernel
theorem dX7_rota_120 : decode cX7_rota 120 = .ok (.getfield 13, 3) := by decide +kernel
theorem dX7_rota_123 : decode cX7_rota 123 = .ok (.iconst 0, 1) := by decide +kernel
theorem dX7_rota_124 : decode cX7_rota 124 = .ok (.iaload, 1) := by decide +kernel
theorem dX7_rota_125 : decode cX7_rota 125 = .ok (.if_icmp .ge 23, 3) := by decide +kernel
theorem dX7_rota_128 : decode cX7_rota 128 = .ok (.aload_n 0, 1) := by decide +kernel
theorem dX7_rota_129 : decode cX7_rota 129 = .ok (.getfield 53, 3) := by decide +kernel
theorem dX7_rota_132 : decode cX7_rota 132 = .ok (.iload 6, 2) := by decide +kernel
theorem dX7_rota_134 : decode cX7_rota 134 = .ok (.aload_n 0, 1) := by decide +kernel
theorem dX7_rota_135 : decode cX7_rota 135 = .ok (.getfield 50, 3) := by decide +kernel
theorem dX7_rota_138 : decode cX7_rota 138 = .ok (.iload 6, 2) := by decide +kernel
theorem dX7_rota_140 : decode cX7_rota 140 = .ok (.iaload, 1) := by decide +kernel
theorem dX7_rota_141 : decode cX7_rota 141 = .ok (.iastore, 1) := by decide +kernel
theorem dX7_rota_142 : decode cX7_rota 142 = .ok (.iinc 6 1, 3) := by decide +kernel
theorem dX7_rota_145 : decode cX7_rota 145 = .ok (.goto (-28), 3) := by decide +kernel
theorem dX7_rota_148 : decode cX7_rota 148 = .ok (.iinc 4 1, 3) := by decide +kernel
theorem dX7_rota_151 : decode cX7_rota 151 = .ok (.goto (-67), 3) := by decide +kernel
theorem dX7_rota_154 : decode cX7_rota 154 = .ok (.iload_n 1, 1) := by decide +kernel
theorem dX7_rota_155 : decode cX7_rota 155 = .ok (.iconst (-1), 1) := by decide +kernel
theorem dX7_rota_156 : decode cX7_rota 156 = .ok (.if_icmp .ne 7, 3) := by decide +kernel
theorem dX7_rota_159 : decode cX7_rota 159 = .ok (.iload_n 3, 1) := by decide +kernel
theorem dX7_rota_160 : decode cX7_rota 160 = .ok (.goto 9, 3) := by decide +kernel
theorem dX7_rota_163 : decode cX7_rota 163 = .ok (.aload_n 0, 1) := by decide +kernel
theorem dX7_rota_164 : decode cX7_rota 164 = .ok (.getfield 53, 3) := by decide +kernel
theorem dX7_rota_167 : decode cX7_rota 167 = .ok (.iload_n 1, 1) := by decide +kernel
theorem dX7_rota_168 : decode cX7_rota 168 = .ok (.iaload, 1) := by decide +kernel
theorem dX7_rota_169 : decode cX7_rota 169 = .ok (.ireturn, 1) := by decide +kernel
theorem dX7_seenBy_0 : decode cX7_seenBy 0 = .ok (.iconst 0, 1) := by decide +kernel
theorem dX7_seenBy_1 : decode cX7_seenBy 1 = .ok (.istore_n 2, 1) := by decide +kernel
theorem dX7_seenBy_2 : decode cX7_seenBy 2 = .ok (.iconst 0, 1) := by decide +kernel
theorem dX7_seenBy_3 : decode cX7_seenBy 3 = .ok (.istore_n 3, 1) := by decide +kernel
theorem dX7_seenBy_4 : decode cX7_seenBy 4 = .ok (.iload_n 3, 1) := by decide +kernel
theorem dX7_seenBy_5 : decode cX7_seenBy 5 = .ok (.aload_n 0, 1) := by decide +kernel
theorem dX7_seenBy_6 : decode cX7_seenBy 6 = .ok (.getfield 13, 3) := by decide +kernel
theorem dX7_seenBy_9 : decode cX7_seenBy 9 = .ok (.iconst 0, 1) := by decide +kernel
theorem dX7_seenBy_10 : decode cX7_seenBy 10 = .ok (.iaload, 1) := by decide +kernel
theorem dX7_seenBy_11 : decode cX7_seenBy 11 = .ok (.if_icmp .ge 31, 3) := by decide +kernel
theorem dX7_seenBy_14 : decode cX7_seenBy 14 = .ok (.iload_n 2, 1) := by decide +kernel
theorem dX7_seenBy_15 : decode cX7_seenBy 15 = .ok (.iload_n 1, 1) := by decide +kernel
theorem dX7_seenBy_16 : decode cX7_seenBy 16 = .ok (.iload_n 3, 1) := by decide +kernel
theorem dX7_seenBy_17 : decode cX7_seenBy 17 = .ok (.ishr, 1) := by decide +kernel
theorem dX7_seenBy_18 : decode cX7_seenBy 18 = .ok (.iconst 1, 1) := by decide +kernel
theorem dX7_seenBy_19 : decode cX7_seenBy 19 = .ok (.iand, 1) := by decide +kernel
theorem dX7_seenBy_20 : decode cX7_seenBy 20 = .ok (.iconst 1, 1) := by decide +kernel
theorem dX7_seenBy_21 : decode cX7_seenBy 21 = .ok (.if_icmp .ne 12, 3) := by decide +kernel
theorem dX7_seenBy_24 : decode cX7_seenBy 24 = .ok (.aload_n 0, 1) := by decide +kernel
theorem dX7_seenBy_25 : decode cX7_seenBy 25 = .ok (.getfield 16, 3) := by decide +kernel
theorem dX7_seenBy_28 : decode cX7_seenBy 28 = .ok (.iload_n 3, 1) := by decide +kernel
theorem dX7_seenBy_29 : decode cX7_seenBy 29 = .ok (.iaload, 1) := by decide +kernel
theorem dX7_seenBy_30 : decode cX7_seenBy 30 = .ok (.goto 4, 3) := by decide +kernel
theorem dX7_seenBy_33 : decode cX7_seenBy 33 = .ok (.iconst 0, 1) := by decide +kernel
theorem dX7_seenBy_34 : decode cX7_seenBy 34 = .ok (.ior, 1) := by decide +kernel
theorem dX7_seenBy_35 : decode cX7_seenBy 35 = .ok (.istore_n 2, 1) := by decide +kernel
theorem dX7_seenBy_36 : decode cX7_seenBy 36 = .ok (.iinc 3 1, 3) := by decide +kernel
theorem dX7_seenBy_39 : decode cX7_seenBy 39 = .ok (.goto (-35), 3) := by decide +kernel
theorem dX7_seenBy_42 : decode cX7_seenBy 42 = .ok (.iload_n 2, 1) := by decide +kernel
theorem dX7_seenBy_43 : decode cX7_seenBy 43 = .ok (.ireturn, 1) := by decide +kernel
theorem dX7_leave_0 : decode cX7_leave 0 = .ok (.aload_n 0, 1) := by decide +kernel
theorem dX7_leave_1 : decode cX7_leave 1 = .ok (.iconst 0, 1) := by decide +kernel
theorem dX7_leave_2 : decode cX7_leave 2 = .ok (.putfield 56, 3) := by decide +kernel
theorem dX7_leave_5 : decode cX7_leave 5 = .ok (.iconst 1, 1) := by decide +kernel
theorem dX7_leave_6 : decode cX7_leave 6 = .ok (.aload_n 0, 1) := by decide +kernel
theorem dX7_leave_7 : decode cX7_leave 7 = .ok (.getfield 13, 3) := by decide +kernel
theorem dX7_leave_10 : decode cX7_leave 10 = .ok (.iconst 0, 1) := by decide +kernel
theorem dX7_leave_11 : decode cX7_leave 11 = .ok (.iaload, 1) := by decide +kernel
theorem dX7_leave_12 : decode cX7_leave 12 = .ok (.ishl, 1) := by decide +kernel
theorem dX7_leave_13 : decode cX7_leave 13 = .ok (.iconst 1, 1) := by decide +kernel
theorem dX7_leave_14 : decode cX7_leave 14 = .ok (.isub, 1) := by decide +kernel
theorem dX7_leave_15 : decode cX7_leave 15 = .ok (.istore_n 1, 1) := by decide +kernel
theorem dX7_leave_16 : decode cX7_leave 16 = .ok (.iconst 0, 1) := by decide +kernel
theorem dX7_leave_17 : decode cX7_leave 17 = .ok (.istore_n 2, 1) := by decide +kernel
theorem dX7_leave_18 : decode cX7_leave 18 = .ok (.iconst 1, 1) := by decide +kernel
theorem dX7_leave_19 : decode cX7_leave 19 = .ok (.istore_n 3, 1) := by decide +kernel
theorem dX7_leave_20 : decode cX7_leave 20 = .ok (.iload_n 3, 1) := by decide +kernel
theorem dX7_leave_21 : decode cX7_leave 21 = .ok (.iload_n 1, 1) := by decide +kernel
theorem dX7_leave_22 : decode cX7_leave 22 = .ok (.if_icmp .gt 42, 3) := by decide +kernel
theorem dX7_leave_25 : decode cX7_leave 25 = .ok (.iload_n 3, 1) := by decide +kernel
theorem dX7_leave_26 : decode cX7_leave 26 = .ok (.aload_n 0, 1) := by decide +kernel
theorem dX7_leave_27 : decode cX7_leave 27 = .ok (.iload_n 1, 1) := by decide +kernel
theorem dX7_leave_28 : decode cX7_leave 28 = .ok (.iload_n 3, 1) := by decide +kernel
theorem dX7_leave_29 : decode cX7_leave 29 = .ok (.iconst (-1), 1) := by decide +kernel
theorem dX7_leave_30 : decode cX7_leave 30 = .ok (.ixor, 1) := by decide +kernel
theorem dX7_leave_31 : decode cX7_leave 31 = .ok (.iand, 1) := by decide +kernel
theorem dX7_leave_32 : decode cX7_leave 32 = .ok (.invokevirtual 182, 3) := by decide +kernel
theorem dX7_leave_35 : decode cX7_leave 35 = .ok (.iconst (-1), 1) := by decide +kernel
theorem dX7_leave_36 : decode cX7_leave 36 = .ok (.ixor, 1) := by decide +kernel
theorem dX7_leave_37 : decode cX7_leave 37 = .ok (.iand, 1) := by decide +kernel
theorem dX7_leave_38 : decode cX7_leave 38 = .ok (.ifCond .ne 18, 3) := by decide +kernel
theorem dX7_leave_41 : decode cX7_leave 41 = .ok (.iload_n 3, 1) := by decide +kernel
theorem dX7_leave_42 : decode cX7_leave 42 = .ok (.invokestatic 151, 3) := by decide +kernel
theorem dX7_leave_45 : decode cX7_leave 45 = .ok (.iload_n 2, 1) := by decide +kernel
theorem dX7_leave_46 : decode cX7_leave 46 = .ok (.invokestatic 151, 3) := by decide +kernel
theorem dX7_leave_49 : decode cX7_leave 49 = .ok (.if_icmp .le 7, 3) := by decide +kernel
theorem dX7_leave_52 : decode cX7_leave 52 = .ok (.iload_n 3, 1) := by decide +kernel
theorem dX7_leave_53 : decode cX7_leave 53 = .ok (.goto 4, 3) := by decide +kernel
theorem dX7_leave_56 : decode cX7_leave 56 = .ok (.iload_n 2, 1) := by decide +kernel
theorem dX7_leave_57 : decode cX7_leave 57 = .ok (.istore_n 2, 1) := by decide +kernel
theorem dX7_leave_58 : decode cX7_leave 58 = .ok (.iinc 3 1, 3) := by decide +kernel
theorem dX7_leave_61 : decode cX7_leave 61 = .ok (.goto (-41), 3) := by decide +kernel
theorem dX7_leave_64 : decode cX7_leave 64 = .ok (.iload_n 2, 1) := by decide +kernel
theorem dX7_leave_65 : decode cX7_leave 65 = .ok (.ireturn, 1) := by decide +kernel
theorem dX7_two_0 : decode cX7_two 0 = .ok (.aload_n 0, 1) := by decide +kernel
theorem dX7_two_1 : decode cX7_two 1 = .ok (.iconst 0, 1) := by decide +kernel
theorem dX7_two_2 : decode cX7_two 2 = .ok (.putfield 56, 3) := by decide +kernel
theorem dX7_two_5 : decode cX7_two 5 = .ok (.bipush (-9), 2) := by decide +kernel
theorem dX7_two_7 : decode cX7_two 7 = .ok (.istore_n 1, 1) := by decide +kernel
theorem dX7_two_8 : decode cX7_two 8 = .ok (.iconst (-1), 1) := by decide +kernel
theorem dX7_two_9 : decode cX7_two 9 = .ok (.istore_n 2, 1) := by decide +kernel
theorem dX7_two_10 : decode cX7_two 10 = .ok (.iconst 0, 1) := by decide +kernel
theorem dX7_two_11 : decode cX7_two 11 = .ok (.istore_n 3, 1) := by decide +kernel
theorem dX7_two_12 : decode cX7_two 12 = .ok (.iload_n 3, 1) := by decide +kernel
theorem dX7_two_13 : decode cX7_two 13 = .ok (.aload_n 0, 1) := by decide +kernel
theorem dX7_two_14 : decode cX7_two 14 = .ok (.getfield 13, 3) := by decide +kernel
theorem dX7_two_17 : decode cX7_two 17 = .ok (.iconst 0, 1) := by decide +kernel
theorem dX7_two_18 : decode cX7_two 18 = .ok (.iaload, 1) := by decide +kernel
theorem dX7_two_19 : decode cX7_two 19 = .ok (.if_icmp .ge 68, 3) := by decide +kernel
theorem dX7_two_22 : decode cX7_two 22 = .ok (.aload_n 0, 1) := by decide +kernel
theorem dX7_two_23 : decode cX7_two 23 = .ok (.getfield 16, 3) := by decide +kernel
theorem dX7_two_26 : decode cX7_two 26 = .ok (.iload_n 3, 1) := by decide +kernel
theorem dX7_two_27 : decode cX7_two 27 = .ok (.iaload, 1) := by decide +kernel
theorem dX7_two_28 : decode cX7_two 28 = .ok (.aload_n 0, 1) := by decide +kernel
theorem dX7_two_29 : decode cX7_two 29 = .ok (.iconst 1, 1) := by decide +kernel
theorem dX7_two_30 : decode cX7_two 30 = .ok (.aload_n 0, 1) := by decide +kernel
theorem dX7_two_31 : decode cX7_two 31 = .ok (.getfield 13, 3) := by decide +kernel
theorem dX7_two_34 : decode cX7_two 34 = .ok (.iconst 0, 1) := by decide +kernel
theorem dX7_two_35 : decode cX7_two 35 = .ok (.iaload, 1) := by decide +kernel
theorem dX7_two_36 : decode cX7_two 36 = .ok (.ishl, 1) := by decide +kernel
theorem dX7_two_37 : decode cX7_two 37 = .ok (.iconst 1, 1) := by decide +kernel
theorem dX7_two_38 : decode cX7_two 38 = .ok (.isub, 1) := by decide +kernel
theorem dX7_two_39 : decode cX7_two 39 = .ok (.iconst 1, 1) := by decide +kernel
theorem dX7_two_40 : decode cX7_two 40 = .ok (.iload_n 3, 1) := by decide +kernel
theorem dX7_two_41 : decode cX7_two 41 = .ok (.ishl, 1) := by decide +kernel
theorem dX7_two_42 : decode cX7_two 42 = .ok (.iconst (-1), 1) := by decide +kernel
theorem dX7_two_43 : decode cX7_two 43 = .ok (.ixor, 1) := by decide +kernel
theorem dX7_two_44 : decode cX7_two 44 = .ok (.iand, 1) := by decide +kernel
theorem dX7_two_45 : decode cX7_two 45 = .ok (.invokevirtual 182, 3) := by decide +kernel
theorem dX7_two_48 : decode cX7_two 48 = .ok (.iconst (-1), 1) := by decide +kernel
theorem dX7_two_49 : decode cX7_two 49 = .ok (.ixor, 1) := by decide +kernel
theorem dX7_two_50 : decode cX7_two 50 = .ok (.iand, 1) := by decide +kernel
theorem dX7_two_51 : decode cX7_two 51 = .ok (.invokestatic 151, 3) := by decide +kernel
theorem dX7_two_54 : decode cX7_two 54 = .ok (.istore 4, 2) := by decide +kernel
theorem dX7_two_56 : decode cX7_two 56 = .ok (.iload 4, 2) := by decide +kernel
theorem dX7_two_58 : decode cX7_two 58 = .ok (.iload_n 2, 1) := by decide +kernel
theorem dX7_two_59 : decode cX7_two 59 = .ok (.if_icmp .le 7, 3) := by decide +kernel
theorem dX7_two_62 : decode cX7_two 62 = .ok (.iload_n 3, 1) := by decide +kernel
theorem dX7_two_63 : decode cX7_two 63 = .ok (.goto 4, 3) := by decide +kernel
theorem dX7_two_66 : decode cX7_two 66 = .ok (.iload_n 1, 1) := by decide +kernel
theorem dX7_two_67 : decode cX7_two 67 = .ok (.istore_n 1, 1) := by decide +kernel
theorem dX7_two_68 : decode cX7_two 68 = .ok (.iload 4, 2) := by decide +kernel
theorem dX7_two_70 : decode cX7_two 70 = .ok (.iload_n 2, 1) := by decide +kernel
theorem dX7_two_71 : decode cX7_two 71 = .ok (.if_icmp .le 8, 3) := by decide +kernel
theorem dX7_two_74 : decode cX7_two 74 = .ok (.iload 4, 2) := by decide +kernel
theorem dX7_two_76 : decode cX7_two 76 = .ok (.goto 4, 3) := by decide +kernel
theorem dX7_two_79 : decode cX7_two 79 = .ok (.iload_n 2, 1) := by decide +kernel
theorem dX7_two_80 : decode cX7_two 80 = .ok (.istore_n 2, 1) := by decide +kernel
theorem dX7_two_81 : decode cX7_two 81 = .ok (.iinc 3 1, 3) := by decide +kernel
theorem dX7_two_84 : decode cX7_two 84 = .ok (.goto (-72), 3) := by decide +kernel
theorem dX7_two_87 : decode cX7_two 87 = .ok (.iload_n 1, 1) := by decide +kernel
theorem dX7_two_88 : decode cX7_two 88 = .ok (.ireturn, 1) := by decide +kernel
theorem dX7_unseen_0 : decode cX7_unseen 0 = .ok (.aload_n 0, 1) := by decide +kernel
theorem dX7_unseen_1 : decode cX7_unseen 1 = .ok (.iconst 0, 1) := by decide +kernel
theorem dX7_unseen_2 : decode cX7_unseen 2 = .ok (.putfield 56, 3) := by decide +kernel
theorem dX7_unseen_5 : decode cX7_unseen 5 = .ok (.aload_n 0, 1) := by decide +kernel
theorem dX7_unseen_6 : decode cX7_unseen 6 = .ok (.iload_n 1, 1) := by decide +kernel
theorem dX7_unseen_7 : decode cX7_unseen 7 = .ok (.invokevirtual 120, 3) := by decide +kernel
theorem dX7_unseen_10 : decode cX7_unseen 10 = .ok (.ifCond .eq 13, 3) := by decide +kernel
theorem dX7_unseen_13 : decode cX7_unseen 13 = .ok (.iload_n 2, 1) := by decide +kernel
theorem dX7_unseen_14 : decode cX7_unseen 14 = .ok (.iconst 1, 1) := by decide +kernel
theorem dX7_unseen_15 : decode cX7_unseen 15 = .ok (.bipush 12, 2) := by decide +kernel
theorem dX7_unseen_17 : decode cX7_unseen 17 = .ok (.invokestatic 60, 3) := by decide +kernel
theorem dX7_unseen_20 : decode cX7_unseen 20 = .ok (.ifCond .ne 5, 3) := by decide +kernel
theorem dX7_unseen_23 : decode cX7_unseen 23 = .ok (.iconst (-1), 1) := by decide +kernel
theorem dX7_unseen_24 : decode cX7_unseen 24 = .ok (.ireturn, 1) := by decide +kernel
theorem dX7_unseen_25 : decode cX7_unseen 25 = .ok (.aload_n 0, 1) := by decide +kernel
theorem dX7_unseen_26 : decode cX7_unseen 26 = .ok (.invokevirtual 165, 3) := by decide +kernel
theorem dX7_unseen_29 : decode cX7_unseen 29 = .ok (.iconst 1, 1) := by decide +kernel
theorem dX7_unseen_30 : decode cX7_unseen 30 = .ok (.istore_n 3, 1) := by decide +kernel
theorem dX7_unseen_31 : decode cX7_unseen 31 = .ok (.iconst 0, 1) := by decide +kernel
theorem dX7_unseen_32 : decode cX7_unseen 32 = .ok (.istore 4, 2) := by decide +kernel
theorem dX7_unseen_34 : decode cX7_unseen 34 = .ok (.iload 4, 2) := by decide +kernel
theorem dX7_unseen_36 : decode cX7_unseen 36 = .ok (.iload_n 2, 1) := by decide +kernel
theorem dX7_unseen_37 : decode cX7_unseen 37 = .ok (.if_icmp .ge 39, 3) := by decide +kernel
theorem dX7_unseen_40 : decode cX7_unseen 40 = .ok (.aload_n 0, 1) := by decide +kernel
theorem dX7_unseen_41 : decode cX7_unseen 41 = .ok (.iconst 0, 1) := by decide +kernel
theorem dX7_unseen_42 : decode cX7_unseen 42 = .ok (.invokevirtual 168, 3) := by decide +kernel
theorem dX7_unseen_45 : decode cX7_unseen 45 = .ok (.iload_n 3, 1) := by decide +kernel
theorem dX7_unseen_46 : decode cX7_unseen 46 = .ok (.ifCond .eq 22, 3) := by decide +kernel
theorem dX7_unseen_49 : decode cX7_unseen 49 = .ok (.aload_n 0, 1) := by decide +kernel
theorem dX7_unseen_50 : decode cX7_unseen 50 = .ok (.aload_n 0, 1) := by decide +kernel
theorem dX7_unseen_51 : decode cX7_unseen 51 = .ok (.getfield 28, 3) := by decide +kernel
theorem dX7_unseen_54 : decode cX7_unseen 54 = .ok (.invokevirtual 145, 3) := by decide +kernel
theorem dX7_unseen_57 : decode cX7_unseen 57 = .ok (.iload_n 1, 1) := by decide +kernel
theorem dX7_unseen_58 : decode cX7_unseen 58 = .ok (.ishr, 1) := by decide +kernel
theorem dX7_unseen_59 : decode cX7_unseen 59 = .ok (.iconst 1, 1) := by decide +kernel
theorem dX7_unseen_60 : decode cX7_unseen 60 = .ok (.iand, 1) := by decide +kernel
theorem dX7_unseen_61 : decode cX7_unseen 61 = .ok (.ifCond .ne 7, 3) := by decide +kernel
theorem dX7_unseen_64 : decode cX7_unseen 64 = .ok (.iconst 1, 1) := by decide +kernel
theorem dX7_unseen_65 : decode cX7_unseen 65 = .ok (.goto 4, 3) := by decide +kernel
theorem dX7_unseen_68 : decode cX7_unseen 68 = .ok (.iconst 0, 1) := by decide +kernel
theorem dX7_unseen_69 : decode cX7_unseen 69 = .ok (.istore_n 3, 1) := by decide +kernel
theorem dX7_unseen_70 : decode cX7_unseen 70 = .ok (.iinc 4 1, 3) := by decide +kernel
theorem dX7_unseen_73 : decode cX7_unseen 73 = .ok (.goto (-39), 3) := by decide +kernel
theorem dX7_unseen_76 : decode cX7_unseen 76 = .ok (.iload_n 3, 1) := by decide +kernel
theorem dX7_unseen_77 : decode cX7_unseen 77 = .ok (.ifCond .eq 7, 3) := by decide +kernel
theorem dX7_unseen_80 : decode cX7_unseen 80 = .ok (.iconst 1, 1) := by decide +kernel
theorem dX7_unseen_81 : decode cX7_unseen 81 = .ok (.goto 4, 3) := by decide +kernel
theorem dX7_unseen_84 : decode cX7_unseen 84 = .ok (.iconst 0, 1) := by decide +kernel
theorem dX7_unseen_85 : decode cX7_unseen 85 = .ok (.ireturn, 1) := by decide +kernel
theorem dX7_gcd_0 : decode cX7_gcd 0 = .ok (.iload_n 0, 1) := by decide +kernel
theorem dX7_gcd_1 : decode cX7_gcd 1 = .ok (.istore_n 2, 1) := by decide +kernel
theorem dX7_gcd_2 : decode cX7_gcd 2 = .ok (.iload_n 1, 1) := by decide +kernel
theorem dX7_gcd_3 : decode cX7_gcd 3 = .ok (.istore_n 3, 1) := by decide +kernel
theorem dX7_gcd_4 : decode cX7_gcd 4 = .ok (.iload_n 3, 1) := by decide +kernel
theorem dX7_gcd_5 : decode cX7_gcd 5 = .ok (.ifCond .eq 16, 3) := by decide +kernel
theorem dX7_gcd_8 : decode cX7_gcd 8 = .ok (.iload_n 2, 1) := by decide +kernel
theorem dX7_gcd_9 : decode cX7_gcd 9 = .ok (.iload_n 3, 1) := by decide +kernel
theorem dX7_gcd_10 : decode cX7_gcd 10 = .ok (.irem, 1) := by decide +kernel
theorem dX7_gcd_11 : decode cX7_gcd 11 = .ok (.istore 4, 2) := by decide +kernel
theorem dX7_gcd_13 : decode cX7_gcd 13 = .ok (.iload_n 3, 1) := by decide +kernel
theorem dX7_gcd_14 : decode cX7_gcd 14 = .ok (.istore_n 2, 1) := by decide +kernel
theorem dX7_gcd_15 : decode cX7_gcd 15 = .ok (.iload 4, 2) := by decide +kernel
theorem dX7_gcd_17 : decode cX7_gcd 17 = .ok (.istore_n 3, 1) := by decide +kernel
theorem dX7_gcd_18 : decode cX7_gcd 18 = .ok (.goto (-14), 3) := by decide +kernel
theorem dX7_gcd_21 : decode cX7_gcd 21 = .ok (.iload_n 2, 1) := by decide +kernel
theorem dX7_gcd_22 : decode cX7_gcd 22 = .ok (.ireturn, 1) := by decide +kernel
theorem dX7_part_0 : decode cX7_part 0 = .ok (.iload_n 0, 1) := by decide +kernel
theorem dX7_part_1 : decode cX7_part 1 = .ok (.iload_n 1, 1) := by decide +kernel
theorem dX7_part_2 : decode cX7_part 2 = .ok (.invokestatic 185, 3) := by decide +kernel
theorem dX7_part_5 : decode cX7_part 5 = .ok (.istore_n 3, 1) := by decide +kernel
theorem dX7_part_6 : decode cX7_part 6 = .ok (.iload_n 2, 1) := by decide +kernel
theorem dX7_part_7 : decode cX7_part 7 = .ok (.ifCond .ne 9, 3) := by decide +kernel
theorem dX7_part_10 : decode cX7_part 10 = .ok (.iload_n 0, 1) := by decide +kernel
theorem dX7_part_11 : decode cX7_part 11 = .ok (.iload_n 3, 1) := by decide +kernel
theorem dX7_part_12 : decode cX7_part 12 = .ok (.idiv, 1) := by decide +kernel
theorem dX7_part_13 : decode cX7_part 13 = .ok (.goto 6, 3) := by decide +kernel
theorem dX7_part_16 : decode cX7_part 16 = .ok (.iload_n 1, 1) := by decide +kernel
theorem dX7_part_17 : decode cX7_part 17 = .ok (.iload_n 3, 1) := by decide +kernel
theorem dX7_part_18 : decode cX7_part 18 = .ok (.idiv, 1) := by decide +kernel
theorem dX7_part_19 : decode cX7_part 19 = .ok (.ireturn, 1) := by decide +kernel
theorem dX7_odds_0 : decode cX7_odds 0 = .ok (.aload_n 0, 1) := by decide +kernel
theorem dX7_odds_1 : decode cX7_odds 1 = .ok (.iconst 0, 1) := by decide +kernel
theorem dX7_odds_2 : decode cX7_odds 2 = .ok (.putfield 56, 3) := by decide +kernel
theorem dX7_odds_5 : decode cX7_odds 5 = .ok (.iload_n 1, 1) := by decide +kernel
theorem dX7_odds_6 : decode cX7_odds 6 = .ok (.iconst 0, 1) := by decide +kernel
theorem dX7_odds_7 : decode cX7_odds 7 = .ok (.bipush 10, 2) := by decide +kernel
theorem dX7_odds_9 : decode cX7_odds 9 = .ok (.invokestatic 60, 3) := by decide +kernel
theorem dX7_odds_12 : decode cX7_odds 12 = .ok (.ifCond .eq 12, 3) := by decide +kernel
theorem dX7_odds_15 : decode cX7_odds 15 = .ok (.iload_n 2, 1) := by decide +kernel
theorem dX7_odds_16 : decode cX7_odds 16 = .ok (.iconst 0, 1) := by decide +kernel
theorem dX7_odds_17 : decode cX7_odds 17 = .ok (.iconst 1, 1) := by decide +kernel
theorem dX7_odds_18 : decode cX7_odds 18 = .ok (.invokestatic 60, 3) := by decide +kernel
theorem dX7_odds_21 : decode cX7_odds 21 = .ok (.ifCond .ne 5, 3) := by decide +kernel
theorem dX7_odds_24 : decode cX7_odds 24 = .ok (.iconst (-1), 1) := by decide +kernel
theorem dX7_odds_25 : decode cX7_odds 25 = .ok (.ireturn, 1) := by decide +kernel
theorem dX7_odds_26 : decode cX7_odds 26 = .ok (.aload_n 0, 1) := by decide +kernel
theorem dX7_odds_27 : decode cX7_odds 27 = .ok (.aload_n 0, 1) := by decide +kernel
theorem dX7_odds_28 : decode cX7_odds 28 = .ok (.getfield 25, 3) := by decide +kernel
theorem dX7_odds_31 : decode cX7_odds 31 = .ok (.invokevirtual 139, 3) := by decide +kernel
theorem dX7_odds_34 : decode cX7_odds 34 = .ok (.istore_n 3, 1) := by decide +kernel
theorem dX7_odds_35 : decode cX7_odds 35 = .ok (.iconst 0, 1) := by decide +kernel
theorem dX7_odds_36 : decode cX7_odds 36 = .ok (.istore 4, 2) := by decide +kernel
theorem dX7_odds_38 : decode cX7_odds 38 = .ok (.iconst 1, 1) := by decide +kernel
theorem dX7_odds_39 : decode cX7_odds 39 = .ok (.istore 5, 2) := by decide +kernel
theorem dX7_odds_41 : decode cX7_odds 41 = .ok (.iconst 0, 1) := by decide +kernel
theorem dX7_odds_42 : decode cX7_odds 42 = .ok (.istore 6, 2) := by decide +kernel
theorem dX7_odds_44 : decode cX7_odds 44 = .ok (.iload 6, 2) := by decide +kernel
theorem dX7_odds_46 : decode cX7_odds 46 = .ok (.iload_n 3, 1) := by decide +kernel
theorem dX7_odds_47 : decode cX7_odds 47 = .ok (.invokestatic 151, 3) := by decide +kernel
theorem dX7_odds_50 : decode cX7_odds 50 = .ok (.if_icmp .ge 16, 3) := by decide +kernel
theorem dX7_odds_53 : decode cX7_odds 53 = .ok (.iload 5, 2) := by decide +kernel
theorem dX7_odds_55 : decode cX7_odds 55 = .ok (.bipush 10, 2) := by decide +kernel
theorem dX7_odds_57 : decode cX7_odds 57 = .ok (.imul, 1) := by decide +kernel
theorem dX7_odds_58 : decode cX7_odds 58 = .ok (.istore 5, 2) := by decide +kernel
theorem dX7_odds_60 : decode cX7_odds 60 = .ok (.iinc 6 1, 3) := by decide +kernel
theorem dX7_odds_63 : decode cX7_odds 63 = .ok (.goto (-19), 3) := by decide +kernel
theorem dX7_odds_66 : decode cX7_odds 66 = .ok (.iconst 0, 1) := by decide +kernel
theorem dX7_odds_67 : decode cX7_odds 67 = .ok (.istore 6, 2) := by decide +kernel
theorem dX7_odds_69 : decode cX7_odds 69 = .ok (.iload 6, 2) := by decide +kernel
theorem dX7_odds_71 : decode cX7_odds 71 = .ok (.bipush 32, 2) := by decide +kernel
theorem dX7_odds_73 : decode cX7_odds 73 = .ok (.if_icmp .ge 112, 3) := by decide +kernel
theorem dX7_odds_76 : decode cX7_odds 76 = .ok (.iload 6, 2) := by decide +kernel
theorem dX7_odds_78 : decode cX7_odds 78 = .ok (.iload_n 3, 1) := by decide +kernel
theorem dX7_odds_79 : decode cX7_odds 79 = .ok (.iconst (-1), 1) := by decide +kernel
theorem dX7_odds_80 : decode cX7_odds 80 = .ok (.ixor, 1) := by decide +kernel
theorem dX7_odds_81 : decode cX7_odds 81 = .ok (.iand, 1) := by decide +kernel
theorem dX7_odds_82 : decode cX7_odds 82 = .ok (.ifCond .ne 97, 3) := by decide +kernel
theorem dX7_odds_85 : decode cX7_odds 85 = .ok (.aload_n 0, 1) := by decide +kernel
theorem dX7_odds_86 : decode cX7_odds 86 = .ok (.aload_n 0, 1) := by decide +kernel
theorem dX7_odds_87 : decode cX7_odds 87 = .ok (.aload_n 0, 1) := by decide +kernel
theorem dX7_odds_88 : decode cX7_odds 88 = .ok (.getfield 25, 3) := by decide +kernel
theorem dX7_odds_91 : decode cX7_odds 91 = .ok (.invokevirtual 135, 3) := by decide +kernel
theorem dX7_odds_94 : decode cX7_odds 94 = .ok (.iload_n 3, 1) := by decide +kernel
theorem dX7_odds_95 : decode cX7_odds 95 = .ok (.iconst (-1), 1) := by decide +kernel
theorem dX7_odds_96 : decode cX7_odds 96 = .ok (.ixor, 1) := by decide +kernel
theorem dX7_odds_97 : decode cX7_odds 97 = .ok (.iand, 1) := by decide +kernel
theorem dX7_odds_98 : decode cX7_odds 98 = .ok (.iload 6, 2) := by decide +kernel
theorem dX7_odds_100 : decode cX7_odds 100 = .ok (.ior, 1) := by decide +kernel
theorem dX7_odds_101 : decode cX7_odds 101 = .ok (.invokevirtual 142, 3) := by decide +kernel
theorem dX7_odds_104 : decode cX7_odds 104 = .ok (.iconst 1, 1) := by decide +kernel
theorem dX7_odds_105 : decode cX7_odds 105 = .ok (.aload_n 0, 1) := by decide +kernel
theorem dX7_odds_106 : decode cX7_odds 106 = .ok (.getfield 13, 3) := by decide +kernel
theorem dX7_odds_109 : decode cX7_odds 109 = .ok (.iconst 0, 1) := by decide +kernel
theorem dX7_odds_110 : decode cX7_odds 110 = .ok (.iaload, 1) := by decide +kernel
