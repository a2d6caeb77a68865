theorem dX0_init_0 : decode cX0_init 0 = .ok (.aload_n 0, 1) := by decide +kernel
theorem dX0_init_1 : decode cX0_init 1 = .ok (.invokespecial 3, 3) := by decide +kernel
theorem dX0_init_4 : decode cX0_init 4 = .ok (.aload_n 0, 1) := by decide +kernel
theorem dX0_init_5 : decode cX0_init 5 = .ok (.iconst 5, 1) := by decide +kernel
theorem dX0_init_6 : decode cX0_init 6 = .ok (.newarray .int, 2) := by decide +kernel
theorem dX0_init_8 : decode cX0_init 8 = .ok (.putfield 9, 3) := by decide +kernel
theorem dX0_init_11 : decode cX0_init 11 = .ok (.aload_n 0, 1) := by decide +kernel
theorem dX0_init_12 : decode cX0_init 12 = .ok (.iconst 5, 1) := by decide +kernel
theorem dX0_init_13 : decode cX0_init 13 = .ok (.newarray .int, 2) := by decide +kernel
theorem dX0_init_15 : decode cX0_init 15 = .ok (.putfield 15, 3) := by decide +kernel
theorem dX0_init_18 : decode cX0_init 18 = .ok (.aload_n 0, 1) := by decide +kernel
theorem dX0_init_19 : decode cX0_init 19 = .ok (.bipush 6, 2) := by decide +kernel
theorem dX0_init_21 : decode cX0_init 21 = .ok (.newarray .int, 2) := by decide +kernel
theorem dX0_init_23 : decode cX0_init 23 = .ok (.putfield 18, 3) := by decide +kernel
theorem dX0_init_26 : decode cX0_init 26 = .ok (.aload_n 0, 1) := by decide +kernel
theorem dX0_init_27 : decode cX0_init 27 = .ok (.iconst 2, 1) := by decide +kernel
theorem dX0_init_28 : decode cX0_init 28 = .ok (.putfield 21, 3) := by decide +kernel
theorem dX0_init_31 : decode cX0_init 31 = .ok (.aload_n 0, 1) := by decide +kernel
theorem dX0_init_32 : decode cX0_init 32 = .ok (.iconst 3, 1) := by decide +kernel
theorem dX0_init_33 : decode cX0_init 33 = .ok (.putfield 25, 3) := by decide +kernel
theorem dX0_init_36 : decode cX0_init 36 = .ok (.return_, 1) := by decide +kernel
theorem dX0_empty_0 : decode cX0_empty 0 = .ok (.aload_n 0, 1) := by decide +kernel
theorem dX0_empty_1 : decode cX0_empty 1 = .ok (.iconst 0, 1) := by decide +kernel
theorem dX0_empty_2 : decode cX0_empty 2 = .ok (.putfield 28, 3) := by decide +kernel
theorem dX0_empty_5 : decode cX0_empty 5 = .ok (.aload_n 0, 1) := by decide +kernel
theorem dX0_empty_6 : decode cX0_empty 6 = .ok (.iconst 0, 1) := by decide +kernel
theorem dX0_empty_7 : decode cX0_empty 7 = .ok (.putfield 31, 3) := by decide +kernel
theorem dX0_empty_10 : decode cX0_empty 10 = .ok (.aload_n 0, 1) := by decide +kernel
theorem dX0_empty_11 : decode cX0_empty 11 = .ok (.iconst 2, 1) := by decide +kernel
theorem dX0_empty_12 : decode cX0_empty 12 = .ok (.putfield 21, 3) := by decide +kernel
theorem dX0_empty_15 : decode cX0_empty 15 = .ok (.aload_n 0, 1) := by decide +kernel
theorem dX0_empty_16 : decode cX0_empty 16 = .ok (.iconst 3, 1) := by decide +kernel
theorem dX0_empty_17 : decode cX0_empty 17 = .ok (.putfield 25, 3) := by decide +kernel
theorem dX0_empty_20 : decode cX0_empty 20 = .ok (.return_, 1) := by decide +kernel
theorem dX0_become_0 : decode cX0_become 0 = .ok (.aload_n 0, 1) := by decide +kernel
theorem dX0_become_1 : decode cX0_become 1 = .ok (.aload_n 1, 1) := by decide +kernel
theorem dX0_become_2 : decode cX0_become 2 = .ok (.getfield 28, 3) := by decide +kernel
theorem dX0_become_5 : decode cX0_become 5 = .ok (.putfield 28, 3) := by decide +kernel
theorem dX0_become_8 : decode cX0_become 8 = .ok (.aload_n 1, 1) := by decide +kernel
theorem dX0_become_9 : decode cX0_become 9 = .ok (.getfield 9, 3) := by decide +kernel
theorem dX0_become_12 : decode cX0_become 12 = .ok (.iconst 0, 1) := by decide +kernel
theorem dX0_become_13 : decode cX0_become 13 = .ok (.aload_n 0, 1) := by decide +kernel
theorem dX0_become_14 : decode cX0_become 14 = .ok (.getfield 9, 3) := by decide +kernel
theorem dX0_become_17 : decode cX0_become 17 = .ok (.iconst 0, 1) := by decide +kernel
theorem dX0_become_18 : decode cX0_become 18 = .ok (.iconst 5, 1) := by decide +kernel
theorem dX0_become_19 : decode cX0_become 19 = .ok (.invokestatic 34, 3) := by decide +kernel
theorem dX0_become_22 : decode cX0_become 22 = .ok (.aload_n 1, 1) := by decide +kernel
theorem dX0_become_23 : decode cX0_become 23 = .ok (.getfield 15, 3) := by decide +kernel
theorem dX0_become_26 : decode cX0_become 26 = .ok (.iconst 0, 1) := by decide +kernel
theorem dX0_become_27 : decode cX0_become 27 = .ok (.aload_n 0, 1) := by decide +kernel
theorem dX0_become_28 : decode cX0_become 28 = .ok (.getfield 15, 3) := by decide +kernel
theorem dX0_become_31 : decode cX0_become 31 = .ok (.iconst 0, 1) := by decide +kernel
theorem dX0_become_32 : decode cX0_become 32 = .ok (.iconst 5, 1) := by decide +kernel
theorem dX0_become_33 : decode cX0_become 33 = .ok (.invokestatic 34, 3) := by decide +kernel
theorem dX0_become_36 : decode cX0_become 36 = .ok (.aload_n 0, 1) := by decide +kernel
theorem dX0_become_37 : decode cX0_become 37 = .ok (.aload_n 1, 1) := by decide +kernel
theorem dX0_become_38 : decode cX0_become 38 = .ok (.getfield 31, 3) := by decide +kernel
theorem dX0_become_41 : decode cX0_become 41 = .ok (.putfield 31, 3) := by decide +kernel
theorem dX0_become_44 : decode cX0_become 44 = .ok (.aload_n 1, 1) := by decide +kernel
theorem dX0_become_45 : decode cX0_become 45 = .ok (.getfield 18, 3) := by decide +kernel
theorem dX0_become_48 : decode cX0_become 48 = .ok (.iconst 0, 1) := by decide +kernel
theorem dX0_become_49 : decode cX0_become 49 = .ok (.aload_n 0, 1) := by decide +kernel
theorem dX0_become_50 : decode cX0_become 50 = .ok (.getfield 18, 3) := by decide +kernel
theorem dX0_become_53 : decode cX0_become 53 = .ok (.iconst 0, 1) := by decide +kernel
theorem dX0_become_54 : decode cX0_become 54 = .ok (.bipush 6, 2) := by decide +kernel
theorem dX0_become_56 : decode cX0_become 56 = .ok (.invokestatic 34, 3) := by decide +kernel
theorem dX0_become_59 : decode cX0_become 59 = .ok (.aload_n 0, 1) := by decide +kernel
theorem dX0_become_60 : decode cX0_become 60 = .ok (.aload_n 1, 1) := by decide +kernel
theorem dX0_become_61 : decode cX0_become 61 = .ok (.getfield 21, 3) := by decide +kernel
theorem dX0_become_64 : decode cX0_become 64 = .ok (.putfield 21, 3) := by decide +kernel
theorem dX0_become_67 : decode cX0_become 67 = .ok (.aload_n 0, 1) := by decide +kernel
theorem dX0_become_68 : decode cX0_become 68 = .ok (.aload_n 1, 1) := by decide +kernel
theorem dX0_become_69 : decode cX0_become 69 = .ok (.getfield 25, 3) := by decide +kernel
theorem dX0_become_72 : decode cX0_become 72 = .ok (.putfield 25, 3) := by decide +kernel
theorem dX0_become_75 : decode cX0_become 75 = .ok (.return_, 1) := by decide +kernel
theorem dX0_allPosts_0 : decode cX0_allPosts 0 = .ok (.iconst 1, 1) := by decide +kernel
theorem dX0_allPosts_1 : decode cX0_allPosts 1 = .ok (.aload_n 0, 1) := by decide +kernel
theorem dX0_allPosts_2 : decode cX0_allPosts 2 = .ok (.getfield 28, 3) := by decide +kernel
theorem dX0_allPosts_5 : decode cX0_allPosts 5 = .ok (.ishl, 1) := by decide +kernel
theorem dX0_allPosts_6 : decode cX0_allPosts 6 = .ok (.iconst 1, 1) := by decide +kernel
theorem dX0_allPosts_7 : decode cX0_allPosts 7 = .ok (.isub, 1) := by decide +kernel
theorem dX0_allPosts_8 : decode cX0_allPosts 8 = .ok (.ireturn, 1) := by decide +kernel
theorem dX0_seenFrom_0 : decode cX0_seenFrom 0 = .ok (.aload_n 0, 1) := by decide +kernel
theorem dX0_seenFrom_1 : decode cX0_seenFrom 1 = .ok (.getfield 9, 3) := by decide +kernel
theorem dX0_seenFrom_4 : decode cX0_seenFrom 4 = .ok (.iload_n 1, 1) := by decide +kernel
theorem dX0_seenFrom_5 : decode cX0_seenFrom 5 = .ok (.iaload, 1) := by decide +kernel
theorem dX0_seenFrom_6 : decode cX0_seenFrom 6 = .ok (.aload_n 0, 1) := by decide +kernel
theorem dX0_seenFrom_7 : decode cX0_seenFrom 7 = .ok (.invokevirtual 40, 3) := by decide +kernel
theorem dX0_seenFrom_10 : decode cX0_seenFrom 10 = .ok (.iand, 1) := by decide +kernel
theorem dX0_seenFrom_11 : decode cX0_seenFrom 11 = .ok (.iconst 1, 1) := by decide +kernel
theorem dX0_seenFrom_12 : decode cX0_seenFrom 12 = .ok (.iload_n 1, 1) := by decide +kernel
theorem dX0_seenFrom_13 : decode cX0_seenFrom 13 = .ok (.ishl, 1) := by decide +kernel
theorem dX0_seenFrom_14 : decode cX0_seenFrom 14 = .ok (.iconst (-1), 1) := by decide +kernel
theorem dX0_seenFrom_15 : decode cX0_seenFrom 15 = .ok (.ixor, 1) := by decide +kernel
theorem dX0_seenFrom_16 : decode cX0_seenFrom 16 = .ok (.iand, 1) := by decide +kernel
theorem dX0_seenFrom_17 : decode cX0_seenFrom 17 = .ok (.ireturn, 1) := by decide +kernel
theorem dX0_watchedBy_0 : decode cX0_watchedBy 0 = .ok (.iload_n 1, 1) := by decide +kernel
theorem dX0_watchedBy_1 : decode cX0_watchedBy 1 = .ok (.istore_n 2, 1) := by decide +kernel
theorem dX0_watchedBy_2 : decode cX0_watchedBy 2 = .ok (.iconst 0, 1) := by decide +kernel
theorem dX0_watchedBy_3 : decode cX0_watchedBy 3 = .ok (.istore_n 3, 1) := by decide +kernel
theorem dX0_watchedBy_4 : decode cX0_watchedBy 4 = .ok (.iload_n 3, 1) := by decide +kernel
theorem dX0_watchedBy_5 : decode cX0_watchedBy 5 = .ok (.aload_n 0, 1) := by decide +kernel
theorem dX0_watchedBy_6 : decode cX0_watchedBy 6 = .ok (.getfield 28, 3) := by decide +kernel
theorem dX0_watchedBy_9 : decode cX0_watchedBy 9 = .ok (.if_icmp .ge 26, 3) := by decide +kernel
theorem dX0_watchedBy_12 : decode cX0_watchedBy 12 = .ok (.iload_n 1, 1) := by decide +kernel
theorem dX0_watchedBy_13 : decode cX0_watchedBy 13 = .ok (.iload_n 3, 1) := by decide +kernel
theorem dX0_watchedBy_14 : decode cX0_watchedBy 14 = .ok (.ishr, 1) := by decide +kernel
theorem dX0_watchedBy_15 : decode cX0_watchedBy 15 = .ok (.iconst 1, 1) := by decide +kernel
theorem dX0_watchedBy_16 : decode cX0_watchedBy 16 = .ok (.iand, 1) := by decide +kernel
theorem dX0_watchedBy_17 : decode cX0_watchedBy 17 = .ok (.iconst 1, 1) := by decide +kernel
theorem dX0_watchedBy_18 : decode cX0_watchedBy 18 = .ok (.if_icmp .ne 11, 3) := by decide +kernel
theorem dX0_watchedBy_21 : decode cX0_watchedBy 21 = .ok (.iload_n 2, 1) := by decide +kernel
theorem dX0_watchedBy_22 : decode cX0_watchedBy 22 = .ok (.aload_n 0, 1) := by decide +kernel
theorem dX0_watchedBy_23 : decode cX0_watchedBy 23 = .ok (.iload_n 3, 1) := by decide +kernel
theorem dX0_watchedBy_24 : decode cX0_watchedBy 24 = .ok (.invokevirtual 44, 3) := by decide +kernel
theorem dX0_watchedBy_27 : decode cX0_watchedBy 27 = .ok (.ior, 1) := by decide +kernel
theorem dX0_watchedBy_28 : decode cX0_watchedBy 28 = .ok (.istore_n 2, 1) := by decide +kernel
theorem dX0_watchedBy_29 : decode cX0_watchedBy 29 = .ok (.iinc 3 1, 3) := by decide +kernel
theorem dX0_watchedBy_32 : decode cX0_watchedBy 32 = .ok (.goto (-28), 3) := by decide +kernel
theorem dX0_watchedBy_35 : decode cX0_watchedBy 35 = .ok (.iload_n 2, 1) := by decide +kernel
theorem dX0_watchedBy_36 : decode cX0_watchedBy 36 = .ok (.ireturn, 1) := by decide +kernel
theorem dX0_burden_0 : decode cX0_burden 0 = .ok (.iload_n 2, 1) := by decide +kernel
theorem dX0_burden_1 : decode cX0_burden 1 = .ok (.bipush 12, 2) := by decide +kernel
theorem dX0_burden_3 : decode cX0_burden 3 = .ok (.irem, 1) := by decide +kernel
theorem dX0_burden_4 : decode cX0_burden 4 = .ok (.istore_n 3, 1) := by decide +kernel
theorem dX0_burden_5 : decode cX0_burden 5 = .ok (.iload_n 3, 1) := by decide +kernel
theorem dX0_burden_6 : decode cX0_burden 6 = .ok (.iconst 2, 1) := by decide +kernel
theorem dX0_burden_7 : decode cX0_burden 7 = .ok (.if_icmp .lt 12, 3) := by decide +kernel
theorem dX0_burden_10 : decode cX0_burden 10 = .ok (.iload_n 3, 1) := by decide +kernel
theorem dX0_burden_11 : decode cX0_burden 11 = .ok (.iconst 4, 1) := by decide +kernel
theorem dX0_burden_12 : decode cX0_burden 12 = .ok (.if_icmp .gt 7, 3) := by decide +kernel
theorem dX0_burden_15 : decode cX0_burden 15 = .ok (.iconst 2, 1) := by decide +kernel
theorem dX0_burden_16 : decode cX0_burden 16 = .ok (.goto 4, 3) := by decide +kernel
theorem dX0_burden_19 : decode cX0_burden 19 = .ok (.iconst 0, 1) := by decide +kernel
theorem dX0_burden_20 : decode cX0_burden 20 = .ok (.istore 4, 2) := by decide +kernel
theorem dX0_burden_22 : decode cX0_burden 22 = .ok (.iconst 4, 1) := by decide +kernel
theorem dX0_burden_23 : decode cX0_burden 23 = .ok (.iload 4, 2) := by decide +kernel
theorem dX0_burden_25 : decode cX0_burden 25 = .ok (.iadd, 1) := by decide +kernel
theorem dX0_burden_26 : decode cX0_burden 26 = .ok (.aload_n 0, 1) := by decide +kernel
theorem dX0_burden_27 : decode cX0_burden 27 = .ok (.getfield 15, 3) := by decide +kernel
theorem dX0_burden_30 : decode cX0_burden 30 = .ok (.iload_n 1, 1) := by decide +kernel
theorem dX0_burden_31 : decode cX0_burden 31 = .ok (.iaload, 1) := by decide +kernel
theorem dX0_burden_32 : decode cX0_burden 32 = .ok (.iconst 3, 1) := by decide +kernel
theorem dX0_burden_33 : decode cX0_burden 33 = .ok (.idiv, 1) := by decide +kernel
theorem dX0_burden_34 : decode cX0_burden 34 = .ok (.iadd, 1) := by decide +kernel
theorem dX0_burden_35 : decode cX0_burden 35 = .ok (.ireturn, 1) := by decide +kernel
theorem dX0_nextPost_0 : decode cX0_nextPost 0 = .ok (.iload_n 2, 1) := by decide +kernel
theorem dX0_nextPost_1 : decode cX0_nextPost 1 = .ok (.iconst 1, 1) := by decide +kernel
theorem dX0_nextPost_2 : decode cX0_nextPost 2 = .ok (.if_icmp .ne 21, 3) := by decide +kernel
theorem dX0_nextPost_5 : decode cX0_nextPost 5 = .ok (.iload_n 1, 1) := by decide +kernel
theorem dX0_nextPost_6 : decode cX0_nextPost 6 = .ok (.iconst 1, 1) := by decide +kernel
theorem dX0_nextPost_7 : decode cX0_nextPost 7 = .ok (.iadd, 1) := by decide +kernel
theorem dX0_nextPost_8 : decode cX0_nextPost 8 = .ok (.aload_n 0, 1) := by decide +kernel
theorem dX0_nextPost_9 : decode cX0_nextPost 9 = .ok (.getfield 28, 3) := by decide +kernel
theorem dX0_nextPost_12 : decode cX0_nextPost 12 = .ok (.if_icmp .ge 9, 3) := by decide +kernel
theorem dX0_nextPost_15 : decode cX0_nextPost 15 = .ok (.iload_n 1, 1) := by decide +kernel
theorem dX0_nextPost_16 : decode cX0_nextPost 16 = .ok (.iconst 1, 1) := by decide +kernel
theorem dX0_nextPost_17 : decode cX0_nextPost 17 = .ok (.iadd, 1) := by decide +kernel
theorem dX0_nextPost_18 : decode cX0_nextPost 18 = .ok (.goto 4, 3) := by decide +kernel
theorem dX0_nextPost_21 : decode cX0_nextPost 21 = .ok (.iconst 0, 1) := by decide +kernel
theorem dX0_nextPost_22 : decode cX0_nextPost 22 = .ok (.ireturn, 1) := by decide +kernel
theorem dX0_nextPost_23 : decode cX0_nextPost 23 = .ok (.iload_n 1, 1) := by decide +kernel
theorem dX0_nextPost_24 : decode cX0_nextPost 24 = .ok (.ifCond .le 9, 3) := by decide +kernel
theorem dX0_nextPost_27 : decode cX0_nextPost 27 = .ok (.iload_n 1, 1) := by decide +kernel
theorem dX0_nextPost_28 : decode cX0_nextPost 28 = .ok (.iconst 1, 1) := by decide +kernel
theorem dX0_nextPost_29 : decode cX0_nextPost 29 = .ok (.isub, 1) := by decide +kernel
theorem dX0_nextPost_30 : decode cX0_nextPost 30 = .ok (.goto 9, 3) := by decide +kernel
theorem dX0_nextPost_33 : decode cX0_nextPost 33 = .ok (.aload_n 0, 1) := by decide +kernel
theorem dX0_nextPost_34 : decode cX0_nextPost 34 = .ok (.getfield 28, 3) := by decide +kernel
theorem dX0_nextPost_37 : decode cX0_nextPost 37 = .ok (.iconst 1, 1) := by decide +kernel
theorem dX0_nextPost_38 : decode cX0_nextPost 38 = .ok (.isub, 1) := by decide +kernel
theorem dX0_nextPost_39 : decode cX0_nextPost 39 = .ok (.ireturn, 1) := by decide +kernel
theorem dX1_init_0 : decode cX1_init 0 = .ok (.aload_n 0, 1) := by decide +kernel
theorem dX1_init_1 : decode cX1_init 1 = .ok (.invokespecial 3, 3) := by decide +kernel
theorem dX1_init_4 : decode cX1_init 4 = .ok (.aload_n 0, 1) := by decide +kernel
theorem dX1_init_5 : decode cX1_init 5 = .ok (.bipush 6, 2) := by decide +kernel
theorem dX1_init_7 : decode cX1_init 7 = .ok (.newarray .int, 2) := by decide +kernel
theorem dX1_init_9 : decode cX1_init 9 = .ok (.putfield 9, 3) := by decide +kernel
theorem dX1_init_12 : decode cX1_init 12 = .ok (.aload_n 0, 1) := by decide +kernel
theorem dX1_init_13 : decode cX1_init 13 = .ok (.bipush 6, 2) := by decide +kernel
theorem dX1_init_15 : decode cX1_init 15 = .ok (.newarray .int, 2) := by decide +kernel
theorem dX1_init_17 : decode cX1_init 17 = .ok (.putfield 15, 3) := by decide +kernel
theorem dX1_init_20 : decode cX1_init 20 = .ok (.aload_n 0, 1) := by decide +kernel
theorem dX1_init_21 : decode cX1_init 21 = .ok (.bipush 6, 2) := by decide +kernel
theorem dX1_init_23 : decode cX1_init 23 = .ok (.newarray .int, 2) := by decide +kernel
theorem dX1_init_25 : decode cX1_init 25 = .ok (.putfield 18, 3) := by decide +kernel
theorem dX1_init_28 : decode cX1_init 28 = .ok (.return_, 1) := by decide +kernel
theorem dX1_add_0 : decode cX1_add 0 = .ok (.aload_n 0, 1) := by decide +kernel
theorem dX1_add_1 : decode cX1_add 1 = .ok (.getfield 21, 3) := by decide +kernel
theorem dX1_add_4 : decode cX1_add 4 = .ok (.bipush 6, 2) := by decide +kernel
theorem dX1_add_6 : decode cX1_add 6 = .ok (.if_icmp .lt 5, 3) := by decide +kernel
theorem dX1_add_9 : decode cX1_add 9 = .ok (.iconst 0, 1) := by decide +kernel
theorem dX1_add_10 : decode cX1_add 10 = .ok (.ireturn, 1) := by decide +kernel
theorem dX1_add_11 : decode cX1_add 11 = .ok (.aload_n 0, 1) := by decide +kernel
theorem dX1_add_12 : decode cX1_add 12 = .ok (.getfield 9, 3) := by decide +kernel
theorem dX1_add_15 : decode cX1_add 15 = .ok (.aload_n 0, 1) := by decide +kernel
theorem dX1_add_16 : decode cX1_add 16 = .ok (.getfield 21, 3) := by decide +kernel
theorem dX1_add_19 : decode cX1_add 19 = .ok (.iload_n 1, 1) := by decide +kernel
theorem dX1_add_20 : decode cX1_add 20 = .ok (.iastore, 1) := by decide +kernel
theorem dX1_add_21 : decode cX1_add 21 = .ok (.aload_n 0, 1) := by decide +kernel
theorem dX1_add_22 : decode cX1_add 22 = .ok (.getfield 15, 3) := by decide +kernel
theorem dX1_add_25 : decode cX1_add 25 = .ok (.aload_n 0, 1) := by decide +kernel
theorem dX1_add_26 : decode cX1_add 26 = .ok (.getfield 21, 3) := by decide +kernel
theorem dX1_add_29 : decode cX1_add 29 = .ok (.iload_n 2, 1) := by decide +kernel
theorem dX1_add_30 : decode cX1_add 30 = .ok (.iastore, 1) := by decide +kernel
theorem dX1_add_31 : decode cX1_add 31 = .ok (.aload_n 0, 1) := by decide +kernel
theorem dX1_add_32 : decode cX1_add 32 = .ok (.getfield 18, 3) := by decide +kernel
theorem dX1_add_35 : decode cX1_add 35 = .ok (.aload_n 0, 1) := by decide +kernel
theorem dX1_add_36 : decode cX1_add 36 = .ok (.getfield 21, 3) := by decide +kernel
theorem dX1_add_39 : decode cX1_add 39 = .ok (.iload_n 3, 1) := by decide +kernel
theorem dX1_add_40 : decode cX1_add 40 = .ok (.iastore, 1) := by decide +kernel
theorem dX1_add_41 : decode cX1_add 41 = .ok (.aload_n 0, 1) := by decide +kernel
theorem dX1_add_42 : decode cX1_add 42 = .ok (.dup, 1) := by decide +kernel
theorem dX1_add_43 : decode cX1_add 43 = .ok (.getfield 21, 3) := by decide +kernel
theorem dX1_add_46 : decode cX1_add 46 = .ok (.iconst 1, 1) := by decide +kernel
theorem dX1_add_47 : decode cX1_add 47 = .ok (.iadd, 1) := by decide +kernel
theorem dX1_add_48 : decode cX1_add 48 = .ok (.putfield 21, 3) := by decide +kernel
theorem dX1_add_51 : decode cX1_add 51 = .ok (.iconst 1, 1) := by decide +kernel
theorem dX1_add_52 : decode cX1_add 52 = .ok (.ireturn, 1) := by decide +kernel
theorem dX1_agree_0 : decode cX1_agree 0 = .ok (.iconst 0, 1) := by decide +kernel
theorem dX1_agree_1 : decode cX1_agree 1 = .ok (.istore_n 3, 1) := by decide +kernel
theorem dX1_agree_2 : decode cX1_agree 2 = .ok (.iload_n 3, 1) := by decide +kernel
theorem dX1_agree_3 : decode cX1_agree 3 = .ok (.aload_n 0, 1) := by decide +kernel
theorem dX1_agree_4 : decode cX1_agree 4 = .ok (.getfield 21, 3) := by decide +kernel
theorem dX1_agree_7 : decode cX1_agree 7 = .ok (.if_icmp .ge 40, 3) := by decide +kernel
theorem dX1_agree_10 : decode cX1_agree 10 = .ok (.aload_n 0, 1) := by decide +kernel
theorem dX1_agree_11 : decode cX1_agree 11 = .ok (.getfield 9, 3) := by decide +kernel
theorem dX1_agree_14 : decode cX1_agree 14 = .ok (.iload_n 3, 1) := by decide +kernel
theorem dX1_agree_15 : decode cX1_agree 15 = .ok (.iaload, 1) := by decide +kernel
theorem dX1_agree_16 : decode cX1_agree 16 = .ok (.iload_n 1, 1) := by decide +kernel
theorem dX1_agree_17 : decode cX1_agree 17 = .ok (.if_icmp .ne 24, 3) := by decide +kernel
theorem dX1_agree_20 : decode cX1_agree 20 = .ok (.iload_n 2, 1) := by decide +kernel
theorem dX1_agree_21 : decode cX1_agree 21 = .ok (.aload_n 0, 1) := by decide +kernel
theorem dX1_agree_22 : decode cX1_agree 22 = .ok (.getfield 15, 3) := by decide +kernel
theorem dX1_agree_25 : decode cX1_agree 25 = .ok (.iload_n 3, 1) := by decide +kernel
theorem dX1_agree_26 : decode cX1_agree 26 = .ok (.iaload, 1) := by decide +kernel
theorem dX1_agree_27 : decode cX1_agree 27 = .ok (.ishr, 1) := by decide +kernel
theorem dX1_agree_28 : decode cX1_agree 28 = .ok (.iconst 1, 1) := by decide +kernel
theorem dX1_agree_29 : decode cX1_agree 29 = .ok (.iand, 1) := by decide +kernel
theorem dX1_agree_30 : decode cX1_agree 30 = .ok (.aload_n 0, 1) := by decide +kernel
theorem dX1_agree_31 : decode cX1_agree 31 = .ok (.getfield 18, 3) := by decide +kernel
theorem dX1_agree_34 : decode cX1_agree 34 = .ok (.iload_n 3, 1) := by decide +kernel
theorem dX1_agree_35 : decode cX1_agree 35 = .ok (.iaload, 1) := by decide +kernel
theorem dX1_agree_36 : decode cX1_agree 36 = .ok (.if_icmp .eq 5, 3) := by decide +kernel
theorem dX1_agree_39 : decode cX1_agree 39 = .ok (.iconst 0, 1) := by decide +kernel
theorem dX1_agree_40 : decode cX1_agree 40 = .ok (.ireturn, 1) := by decide +kernel
theorem dX1_agree_41 : decode cX1_agree 41 = .ok (.iinc 3 1, 3) := by decide +kernel
theorem dX1_agree_44 : decode cX1_agree 44 = .ok (.goto (-42), 3) := by decide +kernel
theorem dX1_agree_47 : decode cX1_agree 47 = .ok (.iconst 1, 1) := by decide +kernel
theorem dX1_agree_48 : decode cX1_agree 48 = .ok (.ireturn, 1) := by decide +kernel
theorem dX2_init_0 : decode cX2_init 0 = .ok (.aload_n 0, 1) := by decide +kernel
theorem dX2_init_1 : decode cX2_init 1 = .ok (.invokespecial 3, 3) := by decide +kernel
theorem dX2_init_4 : decode cX2_init 4 = .ok (.aload_n 0, 1) := by decide +kernel
theorem dX2_init_5 : decode cX2_init 5 = .ok (.bipush 10, 2) := by decide +kernel
theorem dX2_init_7 : decode cX2_init 7 = .ok (.anewarray 9, 3) := by decide +kernel
theorem dX2_init_10 : decode cX2_init 10 = .ok (.putfield 11, 3) := by decide +kernel
theorem dX2_init_13 : decode cX2_init 13 = .ok (.iconst 0, 1) := by decide +kernel
theorem dX2_init_14 : decode cX2_init 14 = .ok (.istore_n 1, 1) := by decide +kernel
theorem dX2_init_15 : decode cX2_init 15 = .ok (.iload_n 1, 1) := by decide +kernel
theorem dX2_init_16 : decode cX2_init 16 = .ok (.bipush 10, 2) := by decide +kernel
theorem dX2_init_18 : decode cX2_init 18 = .ok (.if_icmp .ge 22, 3) := by decide +kernel
theorem dX2_init_21 : decode cX2_init 21 = .ok (.aload_n 0, 1) := by decide +kernel
theorem dX2_init_22 : decode cX2_init 22 = .ok (.getfield 11, 3) := by decide +kernel
theorem dX2_init_25 : decode cX2_init 25 = .ok (.iload_n 1, 1) := by decide +kernel
theorem dX2_init_26 : decode cX2_init 26 = .ok (.new 9, 3) := by decide +kernel
theorem dX2_init_29 : decode cX2_init 29 = .ok (.dup, 1) := by decide +kernel
theorem dX2_init_30 : decode cX2_init 30 = .ok (.invokespecial 17, 3) := by decide +kernel
theorem dX2_init_33 : decode cX2_init 33 = .ok (.aastore, 1) := by decide +kernel
theorem dX2_init_34 : decode cX2_init 34 = .ok (.iinc 1 1, 3) := by decide +kernel
theorem dX2_init_37 : decode cX2_init 37 = .ok (.goto (-22), 3) := by decide +kernel
theorem dX2_init_40 : decode cX2_init 40 = .ok (.return_, 1) := by decide +kernel
theorem dX2_remember_0 : decode cX2_remember 0 = .ok (.aload_n 0, 1) := by decide +kernel
theorem dX2_remember_1 : decode cX2_remember 1 = .ok (.getfield 11, 3) := by decide +kernel
theorem dX2_remember_4 : decode cX2_remember 4 = .ok (.aload_n 0, 1) := by decide +kernel
theorem dX2_remember_5 : decode cX2_remember 5 = .ok (.getfield 18, 3) := by decide +kernel
theorem dX2_remember_8 : decode cX2_remember 8 = .ok (.aaload, 1) := by decide +kernel
theorem dX2_remember_9 : decode cX2_remember 9 = .ok (.aload_n 1, 1) := by decide +kernel
theorem dX2_remember_10 : decode cX2_remember 10 = .ok (.invokevirtual 22, 3) := by decide +kernel
theorem dX2_remember_13 : decode cX2_remember 13 = .ok (.aload_n 0, 1) := by decide +kernel
theorem dX2_remember_14 : decode cX2_remember 14 = .ok (.aload_n 0, 1) := by decide +kernel
theorem dX2_remember_15 : decode cX2_remember 15 = .ok (.getfield 18, 3) := by decide +kernel
theorem dX2_remember_18 : decode cX2_remember 18 = .ok (.iconst 1, 1) := by decide +kernel
theorem dX2_remember_19 : decode cX2_remember 19 = .ok (.iadd, 1) := by decide +kernel
theorem dX2_remember_20 : decode cX2_remember 20 = .ok (.bipush 10, 2) := by decide +kernel
theorem dX2_remember_22 : decode cX2_remember 22 = .ok (.irem, 1) := by decide +kernel
theorem dX2_remember_23 : decode cX2_remember 23 = .ok (.putfield 18, 3) := by decide +kernel
theorem dX2_remember_26 : decode cX2_remember 26 = .ok (.aload_n 0, 1) := by decide +kernel
theorem dX2_remember_27 : decode cX2_remember 27 = .ok (.aload_n 0, 1) := by decide +kernel
theorem dX2_remember_28 : decode cX2_remember 28 = .ok (.getfield 26, 3) := by decide +kernel
theorem dX2_remember_31 : decode cX2_remember 31 = .ok (.iconst 1, 1) := by decide +kernel
theorem dX2_remember_32 : decode cX2_remember 32 = .ok (.iadd, 1) := by decide +kernel
theorem dX2_remember_33 : decode cX2_remember 33 = .ok (.bipush 10, 2) := by decide +kernel
theorem dX2_remember_35 : decode cX2_remember 35 = .ok (.invokestatic 29, 3) := by decide +kernel
theorem dX2_remember_38 : decode cX2_remember 38 = .ok (.putfield 26, 3) := by decide +kernel
theorem dX2_remember_41 : decode cX2_remember 41 = .ok (.return_, 1) := by decide +kernel
theorem dX2_restore_0 : decode cX2_restore 0 = .ok (.aload_n 0, 1) := by decide +kernel
theorem dX2_restore_1 : decode cX2_restore 1 = .ok (.aload_n 0, 1) := by decide +kernel
theorem dX2_restore_2 : decode cX2_restore 2 = .ok (.getfield 18, 3) := by decide +kernel
theorem dX2_restore_5 : decode cX2_restore 5 = .ok (.bipush 10, 2) := by decide +kernel
theorem dX2_restore_7 : decode cX2_restore 7 = .ok (.iadd, 1) := by decide +kernel
theorem dX2_restore_8 : decode cX2_restore 8 = .ok (.iconst 1, 1) := by decide +kernel
theorem dX2_restore_9 : decode cX2_restore 9 = .ok (.isub, 1) := by decide +kernel
theorem dX2_restore_10 : decode cX2_restore 10 = .ok (.bipush 10, 2) := by decide +kernel
theorem dX2_restore_12 : decode cX2_restore 12 = .ok (.irem, 1) := by decide +kernel
theorem dX2_restore_13 : decode cX2_restore 13 = .ok (.putfield 18, 3) := by decide +kernel
theorem dX2_restore_16 : decode cX2_restore 16 = .ok (.aload_n 1, 1) := by decide +kernel
theorem dX2_restore_17 : decode cX2_restore 17 = .ok (.aload_n 0, 1) := by decide +kernel
theorem dX2_restore_18 : decode cX2_restore 18 = .ok (.getfield 11, 3) := by decide +kernel
theorem dX2_restore_21 : decode cX2_restore 21 = .ok (.aload_n 0, 1) := by decide +kernel
theorem dX2_restore_22 : decode cX2_restore 22 = .ok (.getfield 18, 3) := by decide +kernel
theorem dX2_restore_25 : decode cX2_restore 25 = .ok (.aaload, 1) := by decide +kernel
theorem dX2_restore_26 : decode cX2_restore 26 = .ok (.invokevirtual 22, 3) := by decide +kernel
theorem dX2_restore_29 : decode cX2_restore 29 = .ok (.aload_n 0, 1) := by decide +kernel
theorem dX2_restore_30 : decode cX2_restore 30 = .ok (.dup, 1) := by decide +kernel
theorem dX2_restore_31 : decode cX2_restore 31 = .ok (.getfield 26, 3) := by decide +kernel
theorem dX2_restore_34 : decode cX2_restore 34 = .ok (.iconst 1, 1) := by decide +kernel
theorem dX2_restore_35 : decode cX2_restore 35 = .ok (.isub, 1) := by decide +kernel
theorem dX2_restore_36 : decode cX2_restore 36 = .ok (.putfield 26, 3) := by decide +kernel
theorem dX2_restore_39 : decode cX2_restore 39 = .ok (.return_, 1) := by decide +kernel
theorem dX3_init_0 : decode cX3_init 0 = .ok (.aload_n 0, 1) := by decide +kernel
theorem dX3_init_1 : decode cX3_init 1 = .ok (.invokespecial 3, 3) := by decide +kernel
theorem dX3_init_4 : decode cX3_init 4 = .ok (.aload_n 0, 1) := by decide +kernel
theorem dX3_init_5 : decode cX3_init 5 = .ok (.iconst 5, 1) := by decide +kernel
theorem dX3_init_6 : decode cX3_init 6 = .ok (.newarray .int, 2) := by decide +kernel
theorem dX3_init_8 : decode cX3_init 8 = .ok (.putfield 9, 3) := by decide +kernel
theorem dX3_init_11 : decode cX3_init 11 = .ok (.aload_n 0, 1) := by decide +kernel
theorem dX3_init_12 : decode cX3_init 12 = .ok (.iconst 5, 1) := by decide +kernel
theorem dX3_init_13 : decode cX3_init 13 = .ok (.newarray .int, 2) := by decide +kernel
theorem dX3_init_15 : decode cX3_init 15 = .ok (.putfield 15, 3) := by decide +kernel
theorem dX3_init_18 : decode cX3_init 18 = .ok (.aload_n 0, 1) := by decide +kernel
theorem dX3_init_19 : decode cX3_init 19 = .ok (.bipush 30, 2) := by decide +kernel
theorem dX3_init_21 : decode cX3_init 21 = .ok (.newarray .int, 2) := by decide +kernel
theorem dX3_init_23 : decode cX3_init 23 = .ok (.putfield 18, 3) := by decide +kernel
theorem dX3_init_26 : decode cX3_init 26 = .ok (.return_, 1) := by decide +kernel
theorem dX3_search_0 : decode cX3_search 0 = .ok (.aload_n 0, 1) := by decide +kernel
theorem dX3_search_1 : decode cX3_search 1 = .ok (.aload_n 1, 1) := by decide +kernel
theorem dX3_search_2 : decode cX3_search 2 = .ok (.aload_n 2, 1) := by decide +kernel
theorem dX3_search_3 : decode cX3_search 3 = .ok (.invokevirtual 21, 3) := by decide +kernel
theorem dX3_search_6 : decode cX3_search 6 = .ok (.aload_n 0, 1) := by decide +kernel
theorem dX3_search_7 : decode cX3_search 7 = .ok (.bipush 61, 2) := by decide +kernel
theorem dX3_search_9 : decode cX3_search 9 = .ok (.putfield 25, 3) := by decide +kernel
theorem dX3_search_12 : decode cX3_search 12 = .ok (.aload_n 0, 1) := by decide +kernel
theorem dX3_search_13 : decode cX3_search 13 = .ok (.aload_n 1, 1) := by decide +kernel
theorem dX3_search_14 : decode cX3_search 14 = .ok (.iconst 0, 1) := by decide +kernel
theorem dX3_search_15 : decode cX3_search 15 = .ok (.iconst 0, 1) := by decide +kernel
theorem dX3_search_16 : decode cX3_search 16 = .ok (.iconst 0, 1) := by decide +kernel
theorem dX3_search_17 : decode cX3_search 17 = .ok (.invokevirtual 29, 3) := by decide +kernel
theorem dX3_search_20 : decode cX3_search 20 = .ok (.return_, 1) := by decide +kernel
theorem dX3_weighAll_0 : decode cX3_weighAll 0 = .ok (.iconst 0, 1) := by decide +kernel
theorem dX3_weighAll_1 : decode cX3_weighAll 1 = .ok (.istore_n 3, 1) := by decide +kernel
theorem dX3_weighAll_2 : decode cX3_weighAll 2 = .ok (.iload_n 3, 1) := by decide +kernel
theorem dX3_weighAll_3 : decode cX3_weighAll 3 = .ok (.aload_n 1, 1) := by decide +kernel
theorem dX3_weighAll_4 : decode cX3_weighAll 4 = .ok (.getfield 33, 3) := by decide +kernel
theorem dX3_weighAll_7 : decode cX3_weighAll 7 = .ok (.if_icmp .ge 91, 3) := by decide +kernel
theorem dX3_weighAll_10 : decode cX3_weighAll 10 = .ok (.iconst 0, 1) := by decide +kernel
theorem dX3_weighAll_11 : decode cX3_weighAll 11 = .ok (.istore 4, 2) := by decide +kernel
theorem dX3_weighAll_13 : decode cX3_weighAll 13 = .ok (.iconst 0, 1) := by decide +kernel
theorem dX3_weighAll_14 : decode cX3_weighAll 14 = .ok (.istore 5, 2) := by decide +kernel
theorem dX3_weighAll_16 : decode cX3_weighAll 16 = .ok (.iload 5, 2) := by decide +kernel
theorem dX3_weighAll_18 : decode cX3_weighAll 18 = .ok (.aload_n 1, 1) := by decide +kernel
theorem dX3_weighAll_19 : decode cX3_weighAll 19 = .ok (.getfield 38, 3) := by decide +kernel
theorem dX3_weighAll_22 : decode cX3_weighAll 22 = .ok (.if_icmp .ge 26, 3) := by decide +kernel
theorem dX3_weighAll_25 : decode cX3_weighAll 25 = .ok (.iload 4, 2) := by decide +kernel
theorem dX3_weighAll_27 : decode cX3_weighAll 27 = .ok (.aload_n 1, 1) := by decide +kernel
theorem dX3_weighAll_28 : decode cX3_weighAll 28 = .ok (.iload_n 3, 1) := by decide +kernel
theorem dX3_weighAll_29 : decode cX3_weighAll 29 = .ok (.aload_n 2, 1) := by decide +kernel
theorem dX3_weighAll_30 : decode cX3_weighAll 30 = .ok (.getfield 41, 3) := by decide +kernel
theorem dX3_weighAll_33 : decode cX3_weighAll 33 = .ok (.iload 5, 2) := by decide +kernel
theorem dX3_weighAll_35 : decode cX3_weighAll 35 = .ok (.iadd, 1) := by decide +kernel
theorem dX3_weighAll_36 : decode cX3_weighAll 36 = .ok (.invokevirtual 46, 3) := by decide +kernel
theorem dX3_weighAll_39 : decode cX3_weighAll 39 = .ok (.iadd, 1) := by decide +kernel
theorem dX3_weighAll_40 : decode cX3_weighAll 40 = .ok (.istore 4, 2) := by decide +kernel
theorem dX3_weighAll_42 : decode cX3_weighAll 42 = .ok (.iinc 5 1, 3) := by decide +kernel
theorem dX3_weighAll_45 : decode cX3_weighAll 45 = .ok (.goto (-29), 3) := by decide +kernel
theorem dX3_weighAll_48 : decode cX3_weighAll 48 = .ok (.iconst 0, 1) := by decide +kernel
theorem dX3_weighAll_49 : decode cX3_weighAll 49 = .ok (.istore 5, 2) := by decide +kernel
theorem dX3_weighAll_51 : decode cX3_weighAll 51 = .ok (.iload 5, 2) := by decide +kernel
theorem dX3_weighAll_53 : decode cX3_weighAll 53 = .ok (.aload_n 1, 1) := by decide +kernel
theorem dX3_weighAll_54 : decode cX3_weighAll 54 = .ok (.getfield 50, 3) := by decide +kernel
theorem dX3_weighAll_57 : decode cX3_weighAll 57 = .ok (.if_icmp .ge 35, 3) := by decide +kernel
theorem dX3_weighAll_60 : decode cX3_weighAll 60 = .ok (.aload_n 0, 1) := by decide +kernel
theorem dX3_weighAll_61 : decode cX3_weighAll 61 = .ok (.getfield 18, 3) := by decide +kernel
theorem dX3_weighAll_64 : decode cX3_weighAll 64 = .ok (.iload 5, 2) := by decide +kernel
theorem dX3_weighAll_66 : decode cX3_weighAll 66 = .ok (.iconst 5, 1) := by decide +kernel
theorem dX3_weighAll_67 : decode cX3_weighAll 67 = .ok (.imul, 1) := by decide +kernel
theorem dX3_weighAll_68 : decode cX3_weighAll 68 = .ok (.iload_n 3, 1) := by decide +kernel
theorem dX3_weighAll_69 : decode cX3_weighAll 69 = .ok (.iadd, 1) := by decide +kernel
theorem dX3_weighAll_70 : decode cX3_weighAll 70 = .ok (.bipush 60, 2) := by decide +kernel
theorem dX3_weighAll_72 : decode cX3_weighAll 72 = .ok (.aload_n 2, 1) := by decide +kernel
theorem dX3_weighAll_73 : decode cX3_weighAll 73 = .ok (.getfield 53, 3) := by decide +kernel
theorem dX3_weighAll_76 : decode cX3_weighAll 76 = .ok (.iload 5, 2) := by decide +kernel
theorem dX3_weighAll_78 : decode cX3_weighAll 78 = .ok (.iaload, 1) := by decide +kernel
theorem dX3_weighAll_79 : decode cX3_weighAll 79 = .ok (.iload 4, 2) := by decide +kernel
theorem dX3_weighAll_81 : decode cX3_weighAll 81 = .ok (.iadd, 1) := by decide +kernel
theorem dX3_weighAll_82 : decode cX3_weighAll 82 = .ok (.invokestatic 56, 3) := by decide +kernel
theorem dX3_weighAll_85 : decode cX3_weighAll 85 = .ok (.iastore, 1) := by decide +kernel
theorem dX3_weighAll_86 : decode cX3_weighAll 86 = .ok (.iinc 5 1, 3) := by decide +kernel
theorem dX3_weighAll_89 : decode cX3_weighAll 89 = .ok (.goto (-38), 3) := by decide +kernel
theorem dX3_weighAll_92 : decode cX3_weighAll 92 = .ok (.iinc 3 1, 3) := by decide +kernel
theorem dX3_weighAll_95 : decode cX3_weighAll 95 = .ok (.goto (-93), 3) := by decide +kernel
theorem dX3_weighAll_98 : decode cX3_weighAll 98 = .ok (.return_, 1) := by decide +kernel
theorem dX3_tryFrom_0 : decode cX3_tryFrom 0 = .ok (.iload 4, 2) := by decide +kernel
theorem dX3_tryFrom_2 : decode cX3_tryFrom 2 = .ok (.aload_n 0, 1) := by decide +kernel
theorem dX3_tryFrom_3 : decode cX3_tryFrom 3 = .ok (.getfield 25, 3) := by decide +kernel
theorem dX3_tryFrom_6 : decode cX3_tryFrom 6 = .ok (.if_icmp .lt 4, 3) := by decide +kernel
theorem dX3_tryFrom_9 : decode cX3_tryFrom 9 = .ok (.return_, 1) := by decide +kernel
theorem dX3_tryFrom_10 : decode cX3_tryFrom 10 = .ok (.iload_n 2, 1) := by decide +kernel
theorem dX3_tryFrom_11 : decode cX3_tryFrom 11 = .ok (.aload_n 1, 1) := by decide +kernel
theorem dX3_tryFrom_12 : decode cX3_tryFrom 12 = .ok (.getfield 33, 3) := by decide +kernel
theorem dX3_tryFrom_15 : decode cX3_tryFrom 15 = .ok (.if_icmp .lt 24, 3) := by decide +kernel
theorem dX3_tryFrom_18 : decode cX3_tryFrom 18 = .ok (.aload_n 0, 1) := by decide +kernel
theorem dX3_tryFrom_19 : decode cX3_tryFrom 19 = .ok (.iload 4, 2) := by decide +kernel
theorem dX3_tryFrom_21 : decode cX3_tryFrom 21 = .ok (.putfield 25, 3) := by decide +kernel
theorem dX3_tryFrom_24 : decode cX3_tryFrom 24 = .ok (.aload_n 0, 1) := by decide +kernel
theorem dX3_tryFrom_25 : decode cX3_tryFrom 25 = .ok (.getfield 15, 3) := by decide +kernel
theorem dX3_tryFrom_28 : decode cX3_tryFrom 28 = .ok (.iconst 0, 1) := by decide +kernel
theorem dX3_tryFrom_29 : decode cX3_tryFrom 29 = .ok (.aload_n 0, 1) := by decide +kernel
theorem dX3_tryFrom_30 : decode cX3_tryFrom 30 = .ok (.getfield 9, 3) := by decide +kernel
theorem dX3_tryFrom_33 : decode cX3_tryFrom 33 = .ok (.iconst 0, 1) := by decide +kernel
theorem dX3_tryFrom_34 : decode cX3_tryFrom 34 = .ok (.iconst 5, 1) := by decide +kernel
theorem dX3_tryFrom_35 : decode cX3_tryFrom 35 = .ok (.invokestatic 61, 3) := by decide +kernel
theorem dX3_tryFrom_38 : decode cX3_tryFrom 38 = .ok (.return_, 1) := by decide +kernel
theorem dX3_tryFrom_39 : decode cX3_tryFrom 39 = .ok (.iconst 0, 1) := by decide +kernel
theorem dX3_tryFrom_40 : decode cX3_tryFrom 40 = .ok (.istore 5, 2) := by decide +kernel
theorem dX3_tryFrom_42 : decode cX3_tryFrom 42 = .ok (.iload 5, 2) := by decide +kernel
theorem dX3_tryFrom_44 : decode cX3_tryFrom 44 = .ok (.aload_n 1, 1) := by decide +kernel
theorem dX3_tryFrom_45 : decode cX3_tryFrom 45 = .ok (.getfield 50, 3) := by decide +kernel
theorem dX3_tryFrom_48 : decode cX3_tryFrom 48 = .ok (.if_icmp .ge 56, 3) := by decide +kernel
theorem dX3_tryFrom_51 : decode cX3_tryFrom 51 = .ok (.iload_n 3, 1) := by decide +kernel
theorem dX3_tryFrom_52 : decode cX3_tryFrom 52 = .ok (.iload 5, 2) := by decide +kernel
theorem dX3_tryFrom_54 : decode cX3_tryFrom 54 = .ok (.ishr, 1) := by decide +kernel
theorem dX3_tryFrom_55 : decode cX3_tryFrom 55 = .ok (.iconst 1, 1) := by decide +kernel
theorem dX3_tryFrom_56 : decode cX3_tryFrom 56 = .ok (.iand, 1) := by decide +kernel
theorem dX3_tryFrom_57 : decode cX3_tryFrom 57 = .ok (.ifCond .ne 41, 3) := by decide +kernel
theorem dX3_tryFrom_60 : decode cX3_tryFrom 60 = .ok (.aload_n 0, 1) := by decide +kernel
theorem dX3_tryFrom_61 : decode cX3_tryFrom 61 = .ok (.getfield 15, 3) := by decide +kernel
theorem dX3_tryFrom_64 : decode cX3_tryFrom 64 = .ok (.iload_n 2, 1) := by decide +kernel
theorem dX3_tryFrom_65 : decode cX3_tryFrom 65 = .ok (.iload 5, 2) := by decide +kernel
theorem dX3_tryFrom_67 : decode cX3_tryFrom 67 = .ok (.iastore, 1) := by decide +kernel
theorem dX3_tryFrom_68 : decode cX3_tryFrom 68 = .ok (.aload_n 0, 1) := by decide +kernel
theorem dX3_tryFrom_69 : decode cX3_tryFrom 69 = .ok (.aload_n 1, 1) := by decide +kernel
theorem dX3_tryFrom_70 : decode cX3_tryFrom 70 = .ok (.iload_n 2, 1) := by decide +kernel
theorem dX3_tryFrom_71 : decode cX3_tryFrom 71 = .ok (.iconst 1, 1) := by decide +kernel
theorem dX3_tryFrom_72 : decode cX3_tryFrom 72 = .ok (.iadd, 1) := by decide +kernel
theorem dX3_tryFrom_73 : decode cX3_tryFrom 73 = .ok (.iload_n 3, 1) := by decide +kernel
theorem dX3_tryFrom_74 : decode cX3_tryFrom 74 = .ok (.iconst 1, 1) := by decide +kernel
theorem dX3_tryFrom_75 : decode cX3_tryFrom 75 = .ok (.iload 5, 2) := by decide +kernel
theorem dX3_tryFrom_77 : decode cX3_tryFrom 77 = .ok (.ishl, 1) := by decide +kernel
theorem dX3_tryFrom_78 : decode cX3_tryFrom 78 = .ok (.ior, 1) := by decide +kernel
theorem dX3_tryFrom_79 : decode cX3_tryFrom 79 = .ok (.iload 4, 2) := by decide +kernel
theorem dX3_tryFrom_81 : decode cX3_tryFrom 81 = .ok (.aload_n 0, 1) := by decide +kernel
theorem dX3_tryFrom_82 : decode cX3_tryFrom 82 = .ok (.getfield 18, 3) := by decide +kernel
theorem dX3_tryFrom_85 : decode cX3_tryFrom 85 = .ok (.iload 5, 2) := by decide +kernel
theorem dX3_tryFrom_87 : decode cX3_tryFrom 87 = .ok (.iconst 5, 1) := by decide +kernel
theorem dX3_tryFrom_88 : decode cX3_tryFrom 88 = .ok (.imul, 1) := by decide +kernel
theorem dX3_tryFrom_89 : decode cX3_tryFrom 89 = .ok (.iload_n 2, 1) := by decide +kernel
theorem dX3_tryFrom_90 : decode cX3_tryFrom 90 = .ok (.iadd, 1) := by decide +kernel
theorem dX3_tryFrom_91 : decode cX3_tryFrom 91 = .ok (.iaload, 1) := by decide +kernel
theorem dX3_tryFrom_92 : decode cX3_tryFrom 92 = .ok (.invokestatic 67, 3) := by decide +kernel
theorem dX3_tryFrom_95 : decode cX3_tryFrom 95 = .ok (.invokevirtual 29, 3) := by decide +kernel
theorem dX3_tryFrom_98 : decode cX3_tryFrom 98 = .ok (.iinc 5 1, 3) := by decide +kernel
theorem dX3_tryFrom_101 : decode cX3_tryFrom 101 = .ok (.goto (-59), 3) := by decide +kernel
theorem dX3_tryFrom_104 : decode cX3_tryFrom 104 = .ok (.return_, 1) := by decide +kernel
theorem dX4_init_0 : decode cX4_init 0 = .ok (.aload_n 0, 1) := by decide +kernel
theorem dX4_init_1 : decode cX4_init 1 = .ok (.invokespecial 3, 3) := by decide +kernel
theorem dX4_init_4 : decode cX4_init 4 = .ok (.aload_n 0, 1) := by decide +kernel
theorem dX4_init_5 : decode cX4_init 5 = .ok (.sipush 200, 3) := by decide +kernel
theorem dX4_init_8 : decode cX4_init 8 = .ok (.newarray .int, 2) := by decide +kernel
theorem dX4_init_10 : decode cX4_init 10 = .ok (.putfield 9, 3) := by decide +kernel
theorem dX4_init_13 : decode cX4_init 13 = .ok (.return_, 1) := by decide +kernel
theorem dX4_take_0 : decode cX4_take 0 = .ok (.aload_n 0, 1) := by decide +kernel
theorem dX4_take_1 : decode cX4_take 1 = .ok (.getfield 15, 3) := by decide +kernel
theorem dX4_take_4 : decode cX4_take 4 = .ok (.sipush 200, 3) := by decide +kernel
theorem dX4_take_7 : decode cX4_take 7 = .ok (.if_icmp .lt 5, 3) := by decide +kernel
theorem dX4_take_10 : decode cX4_take 10 = .ok (.iconst 0, 1) := by decide +kernel
theorem dX4_take_11 : decode cX4_take 11 = .ok (.ireturn, 1) := by decide +kernel
theorem dX4_take_12 : decode cX4_take 12 = .ok (.aload_n 0, 1) := by decide +kernel
theorem dX4_take_13 : decode cX4_take 13 = .ok (.getfield 9, 3) := by decide +kernel
theorem dX4_take_16 : decode cX4_take 16 = .ok (.aload_n 0, 1) := by decide +kernel
theorem dX4_take_17 : decode cX4_take 17 = .ok (.getfield 15, 3) := by decide +kernel
theorem dX4_take_20 : decode cX4_take 20 = .ok (.iload_n 1, 1) := by decide +kernel
theorem dX4_take_21 : decode cX4_take 21 = .ok (.iastore, 1) := by decide +kernel
theorem dX4_take_22 : decode cX4_take 22 = .ok (.aload_n 0, 1) := by decide +kernel
theorem dX4_take_23 : decode cX4_take 23 = .ok (.dup, 1) := by decide +kernel
theorem dX4_take_24 : decode cX4_take 24 = .ok (.getfield 15, 3) := by decide +kernel
theorem dX4_take_27 : decode cX4_take 27 = .ok (.iconst 1, 1) := by decide +kernel
theorem dX4_take_28 : decode cX4_take 28 = .ok (.iadd, 1) := by decide +kernel
theorem dX4_take_29 : decode cX4_take 29 = .ok (.putfield 15, 3) := by decide +kernel
theorem dX4_take_32 : decode cX4_take 32 = .ok (.iconst 1, 1) := by decide +kernel
theorem dX4_take_33 : decode cX4_take 33 = .ok (.ireturn, 1) := by decide +kernel
theorem dX4_readInto_0 : decode cX4_readInto 0 = .ok (.aload_n 1, 1) := by decide +kernel
theorem dX4_readInto_1 : decode cX4_readInto 1 = .ok (.invokevirtual 19, 3) := by decide +kernel
theorem dX4_readInto_4 : decode cX4_readInto 4 = .ok (.aload_n 0, 1) := by decide +kernel
theorem dX4_readInto_5 : decode cX4_readInto 5 = .ok (.iconst 0, 1) := by decide +kernel
theorem dX4_readInto_6 : decode cX4_readInto 6 = .ok (.putfield 24, 3) := by decide +kernel
theorem dX4_readInto_9 : decode cX4_readInto 9 = .ok (.aload_n 0, 1) := by decide +kernel
theorem dX4_readInto_10 : decode cX4_readInto 10 = .ok (.iconst 0, 1) := by decide +kernel
theorem dX4_readInto_11 : decode cX4_readInto 11 = .ok (.putfield 28, 3) := by decide +kernel
theorem dX4_readInto_14 : decode cX4_readInto 14 = .ok (.aload_n 0, 1) := by decide +kernel
theorem dX4_readInto_15 : decode cX4_readInto 15 = .ok (.iconst 0, 1) := by decide +kernel
theorem dX4_readInto_16 : decode cX4_readInto 16 = .ok (.putfield 31, 3) := by decide +kernel
theorem dX4_readInto_19 : decode cX4_readInto 19 = .ok (.iconst 0, 1) := by decide +kernel
theorem dX4_readInto_20 : decode cX4_readInto 20 = .ok (.istore_n 2, 1) := by decide +kernel
theorem dX4_readInto_21 : decode cX4_readInto 21 = .ok (.iload_n 2, 1) := by decide +kernel
theorem dX4_readInto_22 : decode cX4_readInto 22 = .ok (.aload_n 0, 1) := by decide +kernel
theorem dX4_readInto_23 : decode cX4_readInto 23 = .ok (.getfield 15, 3) := by decide +kernel
theorem dX4_readInto_26 : decode cX4_readInto 26 = .ok (.if_icmp .gt 35, 3) := by decide +kernel
theorem dX4_readInto_29 : decode cX4_readInto 29 = .ok (.aload_n 0, 1) := by decide +kernel
theorem dX4_readInto_30 : decode cX4_readInto 30 = .ok (.invokevirtual 34, 3) := by decide +kernel
theorem dX4_readInto_33 : decode cX4_readInto 33 = .ok (.aload_n 0, 1) := by decide +kernel
theorem dX4_readInto_34 : decode cX4_readInto 34 = .ok (.getfield 37, 3) := by decide +kernel
theorem dX4_readInto_37 : decode cX4_readInto 37 = .ok (.bipush (-2), 2) := by decide +kernel
theorem dX4_readInto_39 : decode cX4_readInto 39 = .ok (.if_icmp .ne 5, 3) := by decide +kernel
theorem dX4_readInto_42 : decode cX4_readInto 42 = .ok (.iload_n 2, 1) := by decide +kernel
theorem dX4_readInto_43 : decode cX4_readInto 43 = .ok (.ireturn, 1) := by decide +kernel
theorem dX4_readInto_44 : decode cX4_readInto 44 = .ok (.aload_n 0, 1) := by decide +kernel
theorem dX4_readInto_45 : decode cX4_readInto 45 = .ok (.aload_n 1, 1) := by decide +kernel
theorem dX4_readInto_46 : decode cX4_readInto 46 = .ok (.invokevirtual 40, 3) := by decide +kernel
theorem dX4_readInto_49 : decode cX4_readInto 49 = .ok (.ifCond .ne 6, 3) := by decide +kernel
theorem dX4_readInto_52 : decode cX4_readInto 52 = .ok (.goto 9, 3) := by decide +kernel
theorem dX4_readInto_55 : decode cX4_readInto 55 = .ok (.iinc 2 1, 3) := by decide +kernel
theorem dX4_readInto_58 : decode cX4_readInto 58 = .ok (.goto (-37), 3) := by decide +kernel
theorem dX4_readInto_61 : decode cX4_readInto 61 = .ok (.bipush (-10), 2) := by decide +kernel
theorem dX4_readInto_63 : decode cX4_readInto 63 = .ok (.aload_n 0, 1) := by decide +kernel
theorem dX4_readInto_64 : decode cX4_readInto 64 = .ok (.getfield 44, 3) := by decide +kernel
theorem dX4_readInto_67 : decode cX4_readInto 67 = .ok (.isub, 1) := by decide +kernel
theorem dX4_readInto_68 : decode cX4_readInto 68 = .ok (.ireturn, 1) := by decide +kernel
theorem dX4_readItem_0 : decode cX4_readItem 0 = .ok (.aload_n 0, 1) := by decide +kernel
theorem dX4_readItem_1 : decode cX4_readItem 1 = .ok (.getfield 37, 3) := by decide +kernel
theorem dX4_readItem_4 : decode cX4_readItem 4 = .ok (.tableswitch 68 109 115 #[50, 68, 56, 44, 68, 68, 62], 44) := by decide +kernel
theorem dX4_readItem_48 : decode cX4_readItem 48 = .ok (.aload_n 0, 1) := by decide +kernel
theorem dX4_readItem_49 : decode cX4_readItem 49 = .ok (.aload_n 1, 1) := by decide +kernel
theorem dX4_readItem_50 : decode cX4_readItem 50 = .ok (.invokevirtual 47, 3) := by decide +kernel
theorem dX4_readItem_53 : decode cX4_readItem 53 = .ok (.ireturn, 1) := by decide +kernel
theorem dX4_readItem_54 : decode cX4_readItem 54 = .ok (.aload_n 0, 1) := by decide +kernel
theorem dX4_readItem_55 : decode cX4_readItem 55 = .ok (.aload_n 1, 1) := by decide +kernel
theorem dX4_readItem_56 : decode cX4_readItem 56 = .ok (.invokevirtual 50, 3) := by decide +kernel
theorem dX4_readItem_59 : decode cX4_readItem 59 = .ok (.ireturn, 1) := by decide +kernel
theorem dX4_readItem_60 : decode cX4_readItem 60 = .ok (.aload_n 0, 1) := by decide +kernel
theorem dX4_readItem_61 : decode cX4_readItem 61 = .ok (.aload_n 1, 1) := by decide +kernel
theorem dX4_readItem_62 : decode cX4_readItem 62 = .ok (.invokevirtual 53, 3) := by decide +kernel
theorem dX4_readItem_65 : decode cX4_readItem 65 = .ok (.ireturn, 1) := by decide +kernel
theorem dX4_readItem_66 : decode cX4_readItem 66 = .ok (.aload_n 0, 1) := by decide +kernel
theorem dX4_readItem_67 : decode cX4_readItem 67 = .ok (.aload_n 1, 1) := by decide +kernel
theorem dX4_readItem_68 : decode cX4_readItem 68 = .ok (.invokevirtual 56, 3) := by decide +kernel
theorem dX4_readItem_71 : decode cX4_readItem 71 = .ok (.ireturn, 1) := by decide +kernel
theorem dX4_readItem_72 : decode cX4_readItem 72 = .ok (.iconst 0, 1) := by decide +kernel
theorem dX4_readItem_73 : decode cX4_readItem 73 = .ok (.ireturn, 1) := by decide +kernel
theorem dX4_readPost_0 : decode cX4_readPost 0 = .ok (.aload_n 1, 1) := by decide +kernel
theorem dX4_readPost_1 : decode cX4_readPost 1 = .ok (.getfield 59, 3) := by decide +kernel
theorem dX4_readPost_4 : decode cX4_readPost 4 = .ok (.iconst 5, 1) := by decide +kernel
theorem dX4_readPost_5 : decode cX4_readPost 5 = .ok (.if_icmp .ge 13, 3) := by decide +kernel
theorem dX4_readPost_8 : decode cX4_readPost 8 = .ok (.aload_n 0, 1) := by decide +kernel
theorem dX4_readPost_9 : decode cX4_readPost 9 = .ok (.iconst 0, 1) := by decide +kernel
theorem dX4_readPost_10 : decode cX4_readPost 10 = .ok (.bipush 31, 2) := by decide +kernel
theorem dX4_readPost_12 : decode cX4_readPost 12 = .ok (.invokevirtual 62, 3) := by decide +kernel
theorem dX4_readPost_15 : decode cX4_readPost 15 = .ok (.ifCond .ne 5, 3) := by decide +kernel
theorem dX4_readPost_18 : decode cX4_readPost 18 = .ok (.iconst 0, 1) := by decide +kernel
theorem dX4_readPost_19 : decode cX4_readPost 19 = .ok (.ireturn, 1) := by decide +kernel
theorem dX4_readPost_20 : decode cX4_readPost 20 = .ok (.aload_n 1, 1) := by decide +kernel
theorem dX4_readPost_21 : decode cX4_readPost 21 = .ok (.getfield 66, 3) := by decide +kernel
theorem dX4_readPost_24 : decode cX4_readPost 24 = .ok (.aload_n 1, 1) := by decide +kernel
theorem dX4_readPost_25 : decode cX4_readPost 25 = .ok (.getfield 59, 3) := by decide +kernel
theorem dX4_readPost_28 : decode cX4_readPost 28 = .ok (.aload_n 0, 1) := by decide +kernel
theorem dX4_readPost_29 : decode cX4_readPost 29 = .ok (.getfield 69, 3) := by decide +kernel
theorem dX4_readPost_32 : decode cX4_readPost 32 = .ok (.iastore, 1) := by decide +kernel
theorem dX4_readPost_33 : decode cX4_readPost 33 = .ok (.aload_n 0, 1) := by decide +kernel
theorem dX4_readPost_34 : decode cX4_readPost 34 = .ok (.iconst 0, 1) := by decide +kernel
theorem dX4_readPost_35 : decode cX4_readPost 35 = .ok (.bipush 9, 2) := by decide +kernel
theorem dX4_readPost_37 : decode cX4_readPost 37 = .ok (.invokevirtual 62, 3) := by decide +kernel
theorem dX4_readPost_40 : decode cX4_readPost 40 = .ok (.ifCond .ne 5, 3) := by decide +kernel
theorem dX4_readPost_43 : decode cX4_readPost 43 = .ok (.iconst 0, 1) := by decide +kernel
theorem dX4_readPost_44 : decode cX4_readPost 44 = .ok (.ireturn, 1) := by decide +kernel
theorem dX4_readPost_45 : decode cX4_readPost 45 = .ok (.aload_n 1, 1) := by decide +kernel
theorem dX4_readPost_46 : decode cX4_readPost 46 = .ok (.getfield 72, 3) := by decide +kernel
theorem dX4_readPost_49 : decode cX4_readPost 49 = .ok (.aload_n 1, 1) := by decide +kernel
theorem dX4_readPost_50 : decode cX4_readPost 50 = .ok (.getfield 59, 3) := by decide +kernel
theorem dX4_readPost_53 : decode cX4_readPost 53 = .ok (.aload_n 0, 1) := by decide +kernel
theorem dX4_readPost_54 : decode cX4_readPost 54 = .ok (.getfield 69, 3) := by decide +kernel
theorem dX4_readPost_57 : decode cX4_readPost 57 = .ok (.iastore, 1) := by decide +kernel
theorem dX4_readPost_58 : decode cX4_readPost 58 = .ok (.aload_n 1, 1) := by decide +kernel
theorem dX4_readPost_59 : decode cX4_readPost 59 = .ok (.dup, 1) := by decide +kernel
theorem dX4_readPost_60 : decode cX4_readPost 60 = .ok (.getfield 59, 3) := by decide +kernel
theorem dX4_readPost_63 : decode cX4_readPost 63 = .ok (.iconst 1, 1) := by decide +kernel
theorem dX4_readPost_64 : decode cX4_readPost 64 = .ok (.iadd, 1) := by decide +kernel
theorem dX4_readPost_65 : decode cX4_readPost 65 = .ok (.putfield 59, 3) := by decide +kernel
theorem dX4_readPost_68 : decode cX4_readPost 68 = .ok (.aload_n 0, 1) := by decide +kernel
theorem dX4_readPost_69 : decode cX4_readPost 69 = .ok (.invokevirtual 75, 3) := by decide +kernel
theorem dX4_readPost_72 : decode cX4_readPost 72 = .ok (.ireturn, 1) := by decide +kernel
theorem dX4_readMan_0 : decode cX4_readMan 0 = .ok (.aload_n 1, 1) := by decide +kernel
theorem dX4_readMan_1 : decode cX4_readMan 1 = .ok (.getfield 79, 3) := by decide +kernel
theorem dX4_readMan_4 : decode cX4_readMan 4 = .ok (.bipush 6, 2) := by decide +kernel
theorem dX4_readMan_6 : decode cX4_readMan 6 = .ok (.if_icmp .ge 13, 3) := by decide +kernel
theorem dX4_readMan_9 : decode cX4_readMan 9 = .ok (.aload_n 0, 1) := by decide +kernel
theorem dX4_readMan_10 : decode cX4_readMan 10 = .ok (.iconst 0, 1) := by decide +kernel
theorem dX4_readMan_11 : decode cX4_readMan 11 = .ok (.bipush 60, 2) := by decide +kernel
theorem dX4_readMan_13 : decode cX4_readMan 13 = .ok (.invokevirtual 62, 3) := by decide +kernel
theorem dX4_readMan_16 : decode cX4_readMan 16 = .ok (.ifCond .ne 5, 3) := by decide +kernel
theorem dX4_readMan_19 : decode cX4_readMan 19 = .ok (.iconst 0, 1) := by decide +kernel
theorem dX4_readMan_20 : decode cX4_readMan 20 = .ok (.ireturn, 1) := by decide +kernel
theorem dX4_readMan_21 : decode cX4_readMan 21 = .ok (.aload_n 1, 1) := by decide +kernel
theorem dX4_readMan_22 : decode cX4_readMan 22 = .ok (.getfield 82, 3) := by decide +kernel
theorem dX4_readMan_25 : decode cX4_readMan 25 = .ok (.aload_n 1, 1) := by decide +kernel
theorem dX4_readMan_26 : decode cX4_readMan 26 = .ok (.getfield 79, 3) := by decide +kernel
theorem dX4_readMan_29 : decode cX4_readMan 29 = .ok (.aload_n 0, 1) := by decide +kernel
theorem dX4_readMan_30 : decode cX4_readMan 30 = .ok (.getfield 69, 3) := by decide +kernel
theorem dX4_readMan_33 : decode cX4_readMan 33 = .ok (.iastore, 1) := by decide +kernel
theorem dX4_readMan_34 : decode cX4_readMan 34 = .ok (.aload_n 1, 1) := by decide +kernel
theorem dX4_readMan_35 : decode cX4_readMan 35 = .ok (.dup, 1) := by decide +kernel
theorem dX4_readMan_36 : decode cX4_readMan 36 = .ok (.getfield 79, 3) := by decide +kernel
theorem dX4_readMan_39 : decode cX4_readMan 39 = .ok (.iconst 1, 1) := by decide +kernel
theorem dX4_readMan_40 : decode cX4_readMan 40 = .ok (.iadd, 1) := by decide +kernel
theorem dX4_readMan_41 : decode cX4_readMan 41 = .ok (.putfield 79, 3) := by decide +kernel
theorem dX4_readMan_44 : decode cX4_readMan 44 = .ok (.aload_n 0, 1) := by decide +kernel
theorem dX4_readMan_45 : decode cX4_readMan 45 = .ok (.invokevirtual 75, 3) := by decide +kernel
theorem dX4_readMan_48 : decode cX4_readMan 48 = .ok (.ireturn, 1) := by decide +kernel
theorem dX4_readOn_0 : decode cX4_readOn 0 = .ok (.aload_n 0, 1) := by decide +kernel
theorem dX4_readOn_1 : decode cX4_readOn 1 = .ok (.getfield 24, 3) := by decide +kernel
theorem dX4_readOn_4 : decode cX4_readOn 4 = .ok (.ifCond .ne 13, 3) := by decide +kernel
theorem dX4_readOn_7 : decode cX4_readOn 7 = .ok (.aload_n 0, 1) := by decide +kernel
theorem dX4_readOn_8 : decode cX4_readOn 8 = .ok (.iconst 1, 1) := by decide +kernel
theorem dX4_readOn_9 : decode cX4_readOn 9 = .ok (.bipush 9, 2) := by decide +kernel
theorem dX4_readOn_11 : decode cX4_readOn 11 = .ok (.invokevirtual 62, 3) := by decide +kernel
theorem dX4_readOn_14 : decode cX4_readOn 14 = .ok (.ifCond .ne 5, 3) := by decide +kernel
theorem dX4_readOn_17 : decode cX4_readOn 17 = .ok (.iconst 0, 1) := by decide +kernel
theorem dX4_readOn_18 : decode cX4_readOn 18 = .ok (.ireturn, 1) := by decide +kernel
theorem dX4_readOn_19 : decode cX4_readOn 19 = .ok (.aload_n 0, 1) := by decide +kernel
theorem dX4_readOn_20 : decode cX4_readOn 20 = .ok (.iconst 1, 1) := by decide +kernel
theorem dX4_readOn_21 : decode cX4_readOn 21 = .ok (.putfield 24, 3) := by decide +kernel
theorem dX4_readOn_24 : decode cX4_readOn 24 = .ok (.aload_n 1, 1) := by decide +kernel
theorem dX4_readOn_25 : decode cX4_readOn 25 = .ok (.aload_n 0, 1) := by decide +kernel
theorem dX4_readOn_26 : decode cX4_readOn 26 = .ok (.getfield 69, 3) := by decide +kernel
theorem dX4_readOn_29 : decode cX4_readOn 29 = .ok (.putfield 85, 3) := by decide +kernel
theorem dX4_readOn_32 : decode cX4_readOn 32 = .ok (.aload_n 0, 1) := by decide +kernel
theorem dX4_readOn_33 : decode cX4_readOn 33 = .ok (.invokevirtual 75, 3) := by decide +kernel
theorem dX4_readOn_36 : decode cX4_readOn 36 = .ok (.ireturn, 1) := by decide +kernel
theorem dX4_readStove_0 : decode cX4_readStove 0 = .ok (.aload_n 0, 1) := by decide +kernel
theorem dX4_readStove_1 : decode cX4_readStove 1 = .ok (.getfield 28, 3) := by decide +kernel
theorem dX4_readStove_4 : decode cX4_readStove 4 = .ok (.ifCond .ne 13, 3) := by decide +kernel
theorem dX4_readStove_7 : decode cX4_readStove 7 = .ok (.aload_n 0, 1) := by decide +kernel
theorem dX4_readStove_8 : decode cX4_readStove 8 = .ok (.iconst 1, 1) := by decide +kernel
theorem dX4_readStove_9 : decode cX4_readStove 9 = .ok (.bipush 9, 2) := by decide +kernel
theorem dX4_readStove_11 : decode cX4_readStove 11 = .ok (.invokevirtual 62, 3) := by decide +kernel
theorem dX4_readStove_14 : decode cX4_readStove 14 = .ok (.ifCond .ne 5, 3) := by decide +kernel
theorem dX4_readStove_17 : decode cX4_readStove 17 = .ok (.iconst 0, 1) := by decide +kernel
theorem dX4_readStove_18 : decode cX4_readStove 18 = .ok (.ireturn, 1) := by decide +kernel
theorem dX4_readStove_19 : decode cX4_readStove 19 = .ok (.aload_n 0, 1) := by decide +kernel
theorem dX4_readStove_20 : decode cX4_readStove 20 = .ok (.iconst 1, 1) := by decide +kernel
theorem dX4_readStove_21 : decode cX4_readStove 21 = .ok (.putfield 28, 3) := by decide +kernel
theorem dX4_readStove_24 : decode cX4_readStove 24 = .ok (.aload_n 1, 1) := by decide +kernel
theorem dX4_readStove_25 : decode cX4_readStove 25 = .ok (.aload_n 0, 1) := by decide +kernel
theorem dX4_readStove_26 : decode cX4_readStove 26 = .ok (.getfield 69, 3) := by decide +kernel
theorem dX4_readStove_29 : decode cX4_readStove 29 = .ok (.putfield 88, 3) := by decide +kernel
theorem dX4_readStove_32 : decode cX4_readStove 32 = .ok (.aload_n 0, 1) := by decide +kernel
theorem dX4_readStove_33 : decode cX4_readStove 33 = .ok (.invokevirtual 75, 3) := by decide +kernel
theorem dX4_readStove_36 : decode cX4_readStove 36 = .ok (.ireturn, 1) := by decide +kernel
theorem dX4_readNumber_0 : decode cX4_readNumber 0 = .ok (.aload_n 0, 1) := by decide +kernel
theorem dX4_readNumber_1 : decode cX4_readNumber 1 = .ok (.invokevirtual 34, 3) := by decide +kernel
theorem dX4_readNumber_4 : decode cX4_readNumber 4 = .ok (.aload_n 0, 1) := by decide +kernel
theorem dX4_readNumber_5 : decode cX4_readNumber 5 = .ok (.getfield 37, 3) := by decide +kernel
theorem dX4_readNumber_8 : decode cX4_readNumber 8 = .ok (.iconst (-1), 1) := by decide +kernel
theorem dX4_readNumber_9 : decode cX4_readNumber 9 = .ok (.if_icmp .ne 23, 3) := by decide +kernel
theorem dX4_readNumber_12 : decode cX4_readNumber 12 = .ok (.aload_n 0, 1) := by decide +kernel
theorem dX4_readNumber_13 : decode cX4_readNumber 13 = .ok (.getfield 69, 3) := by decide +kernel
theorem dX4_readNumber_16 : decode cX4_readNumber 16 = .ok (.iload_n 1, 1) := by decide +kernel
theorem dX4_readNumber_17 : decode cX4_readNumber 17 = .ok (.if_icmp .lt 15, 3) := by decide +kernel
theorem dX4_readNumber_20 : decode cX4_readNumber 20 = .ok (.aload_n 0, 1) := by decide +kernel
theorem dX4_readNumber_21 : decode cX4_readNumber 21 = .ok (.getfield 69, 3) := by decide +kernel
theorem dX4_readNumber_24 : decode cX4_readNumber 24 = .ok (.iload_n 2, 1) := by decide +kernel
theorem dX4_readNumber_25 : decode cX4_readNumber 25 = .ok (.if_icmp .gt 7, 3) := by decide +kernel
theorem dX4_readNumber_28 : decode cX4_readNumber 28 = .ok (.iconst 1, 1) := by decide +kernel
theorem dX4_readNumber_29 : decode cX4_readNumber 29 = .ok (.goto 4, 3) := by decide +kernel
theorem dX4_readNumber_32 : decode cX4_readNumber 32 = .ok (.iconst 0, 1) := by decide +kernel
theorem dX4_readNumber_33 : decode cX4_readNumber 33 = .ok (.ireturn, 1) := by decide +kernel
theorem dX4_readEnd_0 : decode cX4_readEnd 0 = .ok (.aload_n 0, 1) := by decide +kernel
theorem dX4_readEnd_1 : decode cX4_readEnd 1 = .ok (.invokevirtual 34, 3) := by decide +kernel
theorem dX4_readEnd_4 : decode cX4_readEnd 4 = .ok (.aload_n 0, 1) := by decide +kernel
theorem dX4_readEnd_5 : decode cX4_readEnd 5 = .ok (.getfield 37, 3) := by decide +kernel
theorem dX4_readEnd_8 : decode cX4_readEnd 8 = .ok (.bipush 59, 2) := by decide +kernel
theorem dX4_readEnd_10 : decode cX4_readEnd 10 = .ok (.if_icmp .ne 7, 3) := by decide +kernel
theorem dX4_readEnd_13 : decode cX4_readEnd 13 = .ok (.iconst 1, 1) := by decide +kernel
theorem dX4_readEnd_14 : decode cX4_readEnd 14 = .ok (.goto 4, 3) := by decide +kernel
theorem dX4_readEnd_17 : decode cX4_readEnd 17 = .ok (.iconst 0, 1) := by decide +kernel
theorem dX4_readEnd_18 : decode cX4_readEnd 18 = .ok (.ireturn, 1) := by decide +kernel
theorem dX4_nextToken_0 : decode cX4_nextToken 0 = .ok (.aload_n 0, 1) := by decide +kernel
theorem dX4_nextToken_1 : decode cX4_nextToken 1 = .ok (.getfield 31, 3) := by decide +kernel
theorem dX4_nextToken_4 : decode cX4_nextToken 4 = .ok (.aload_n 0, 1) := by decide +kernel
theorem dX4_nextToken_5 : decode cX4_nextToken 5 = .ok (.getfield 15, 3) := by decide +kernel
theorem dX4_nextToken_8 : decode cX4_nextToken 8 = .ok (.if_icmp .ge 30, 3) := by decide +kernel
theorem dX4_nextToken_11 : decode cX4_nextToken 11 = .ok (.aload_n 0, 1) := by decide +kernel
theorem dX4_nextToken_12 : decode cX4_nextToken 12 = .ok (.getfield 9, 3) := by decide +kernel
theorem dX4_nextToken_15 : decode cX4_nextToken 15 = .ok (.aload_n 0, 1) := by decide +kernel
theorem dX4_nextToken_16 : decode cX4_nextToken 16 = .ok (.getfield 31, 3) := by decide +kernel
theorem dX4_nextToken_19 : decode cX4_nextToken 19 = .ok (.iaload, 1) := by decide +kernel
theorem dX4_nextToken_20 : decode cX4_nextToken 20 = .ok (.bipush 32, 2) := by decide +kernel
theorem dX4_nextToken_22 : decode cX4_nextToken 22 = .ok (.if_icmp .ne 16, 3) := by decide +kernel
theorem dX4_nextToken_25 : decode cX4_nextToken 25 = .ok (.aload_n 0, 1) := by decide +kernel
theorem dX4_nextToken_26 : decode cX4_nextToken 26 = .ok (.dup, 1) := by decide +kernel
theorem dX4_nextToken_27 : decode cX4_nextToken 27 = .ok (.getfield 31, 3) := by decide +kernel
theorem dX4_nextToken_30 : decode cX4_nextToken 30 = .ok (.iconst 1, 1) := by decide +kernel
theorem dX4_nextToken_31 : decode cX4_nextToken 31 = .ok (.iadd, 1) := by decide +kernel
theorem dX4_nextToken_32 : decode cX4_nextToken 32 = .ok (.putfield 31, 3) := by decide +kernel
theorem dX4_nextToken_35 : decode cX4_nextToken 35 = .ok (.goto (-35), 3) := by decide +kernel
theorem dX4_nextToken_38 : decode cX4_nextToken 38 = .ok (.aload_n 0, 1) := by decide +kernel
theorem dX4_nextToken_39 : decode cX4_nextToken 39 = .ok (.aload_n 0, 1) := by decide +kernel
theorem dX4_nextToken_40 : decode cX4_nextToken 40 = .ok (.getfield 31, 3) := by decide +kernel
theorem dX4_nextToken_43 : decode cX4_nextToken 43 = .ok (.putfield 44, 3) := by decide +kernel
theorem dX4_nextToken_46 : decode cX4_nextToken 46 = .ok (.aload_n 0, 1) := by decide +kernel
theorem dX4_nextToken_47 : decode cX4_nextToken 47 = .ok (.getfield 31, 3) := by decide +kernel
theorem dX4_nextToken_50 : decode cX4_nextToken 50 = .ok (.aload_n 0, 1) := by decide +kernel
theorem dX4_nextToken_51 : decode cX4_nextToken 51 = .ok (.getfield 15, 3) := by decide +kernel
theorem dX4_nextToken_54 : decode cX4_nextToken 54 = .ok (.if_icmp .lt 12, 3) := by decide +kernel
theorem dX4_nextToken_57 : decode cX4_nextToken 57 = .ok (.aload_n 0, 1) := by decide +kernel
theorem dX4_nextToken_58 : decode cX4_nextToken 58 = .ok (.bipush (-2), 2) := by decide +kernel
theorem dX4_nextToken_60 : decode cX4_nextToken 60 = .ok (.putfield 37, 3) := by decide +kernel
theorem dX4_nextToken_63 : decode cX4_nextToken 63 = .ok (.goto 48, 3) := by decide +kernel
theorem dX4_nextToken_66 : decode cX4_nextToken 66 = .ok (.aload_n 0, 1) := by decide +kernel
theorem dX4_nextToken_67 : decode cX4_nextToken 67 = .ok (.getfield 9, 3) := by decide +kernel
theorem dX4_nextToken_70 : decode cX4_nextToken 70 = .ok (.aload_n 0, 1) := by decide +kernel
theorem dX4_nextToken_71 : decode cX4_nextToken 71 = .ok (.getfield 31, 3) := by decide +kernel
theorem dX4_nextToken_74 : decode cX4_nextToken 74 = .ok (.iaload, 1) := by decide +kernel
theorem dX4_nextToken_75 : decode cX4_nextToken 75 = .ok (.invokestatic 91, 3) := by decide +kernel
theorem dX4_nextToken_78 : decode cX4_nextToken 78 = .ok (.ifCond .eq 10, 3) := by decide +kernel
theorem dX4_nextToken_81 : decode cX4_nextToken 81 = .ok (.aload_n 0, 1) := by decide +kernel
theorem dX4_nextToken_82 : decode cX4_nextToken 82 = .ok (.invokevirtual 95, 3) := by decide +kernel
theorem dX4_nextToken_85 : decode cX4_nextToken 85 = .ok (.goto 26, 3) := by decide +kernel
theorem dX4_nextToken_88 : decode cX4_nextToken 88 = .ok (.aload_n 0, 1) := by decide +kernel
theorem dX4_nextToken_89 : decode cX4_nextToken 89 = .ok (.aload_n 0, 1) := by decide +kernel
theorem dX4_nextToken_90 : decode cX4_nextToken 90 = .ok (.getfield 9, 3) := by decide +kernel
theorem dX4_nextToken_93 : decode cX4_nextToken 93 = .ok (.aload_n 0, 1) := by decide +kernel
theorem dX4_nextToken_94 : decode cX4_nextToken 94 = .ok (.getfield 31, 3) := by decide +kernel
theorem dX4_nextToken_97 : decode cX4_nextToken 97 = .ok (.iaload, 1) := by decide +kernel
theorem dX4_nextToken_98 : decode cX4_nextToken 98 = .ok (.putfield 37, 3) := by decide +kernel
theorem dX4_nextToken_101 : decode cX4_nextToken 101 = .ok (.aload_n 0, 1) := by decide +kernel
theorem dX4_nextToken_102 : decode cX4_nextToken 102 = .ok (.dup, 1) := by decide +kernel
theorem dX4_nextToken_103 : decode cX4_nextToken 103 = .ok (.getfield 31, 3) := by decide +kernel
theorem dX4_nextToken_106 : decode cX4_nextToken 106 = .ok (.iconst 1, 1) := by decide +kernel
theorem dX4_nextToken_107 : decode cX4_nextToken 107 = .ok (.iadd, 1) := by decide +kernel
theorem dX4_nextToken_108 : decode cX4_nextToken 108 = .ok (.putfield 31, 3) := by decide +kernel
theorem dX4_nextToken_111 : decode cX4_nextToken 111 = .ok (.return_, 1) := by decide +kernel
theorem dX4_takeNumber_0 : decode cX4_takeNumber 0 = .ok (.aload_n 0, 1) := by decide +kernel
theorem dX4_takeNumber_1 : decode cX4_takeNumber 1 = .ok (.iconst 0, 1) := by decide +kernel
theorem dX4_takeNumber_2 : decode cX4_takeNumber 2 = .ok (.putfield 69, 3) := by decide +kernel
theorem dX4_takeNumber_5 : decode cX4_takeNumber 5 = .ok (.aload_n 0, 1) := by decide +kernel
theorem dX4_takeNumber_6 : decode cX4_takeNumber 6 = .ok (.getfield 31, 3) := by decide +kernel
theorem dX4_takeNumber_9 : decode cX4_takeNumber 9 = .ok (.aload_n 0, 1) := by decide +kernel
theorem dX4_takeNumber_10 : decode cX4_takeNumber 10 = .ok (.getfield 15, 3) := by decide +kernel
theorem dX4_takeNumber_13 : decode cX4_takeNumber 13 = .ok (.if_icmp .ge 60, 3) := by decide +kernel
theorem dX4_takeNumber_16 : decode cX4_takeNumber 16 = .ok (.aload_n 0, 1) := by decide +kernel
theorem dX4_takeNumber_17 : decode cX4_takeNumber 17 = .ok (.getfield 9, 3) := by decide +kernel
theorem dX4_takeNumber_20 : decode cX4_takeNumber 20 = .ok (.aload_n 0, 1) := by decide +kernel
theorem dX4_takeNumber_21 : decode cX4_takeNumber 21 = .ok (.getfield 31, 3) := by decide +kernel
theorem dX4_takeNumber_24 : decode cX4_takeNumber 24 = .ok (.iaload, 1) := by decide +kernel
theorem dX4_takeNumber_25 : decode cX4_takeNumber 25 = .ok (.invokestatic 91, 3) := by decide +kernel
theorem dX4_takeNumber_28 : decode cX4_takeNumber 28 = .ok (.ifCond .eq 45, 3) := by decide +kernel
theorem dX4_takeNumber_31 : decode cX4_takeNumber 31 = .ok (.aload_n 0, 1) := by decide +kernel
theorem dX4_takeNumber_32 : decode cX4_takeNumber 32 = .ok (.bipush 61, 2) := by decide +kernel
theorem dX4_takeNumber_34 : decode cX4_takeNumber 34 = .ok (.aload_n 0, 1) := by decide +kernel
theorem dX4_takeNumber_35 : decode cX4_takeNumber 35 = .ok (.getfield 69, 3) := by decide +kernel
theorem dX4_takeNumber_38 : decode cX4_takeNumber 38 = .ok (.bipush 10, 2) := by decide +kernel
theorem dX4_takeNumber_40 : decode cX4_takeNumber 40 = .ok (.imul, 1) := by decide +kernel
theorem dX4_takeNumber_41 : decode cX4_takeNumber 41 = .ok (.aload_n 0, 1) := by decide +kernel
theorem dX4_takeNumber_42 : decode cX4_takeNumber 42 = .ok (.getfield 9, 3) := by decide +kernel
theorem dX4_takeNumber_45 : decode cX4_takeNumber 45 = .ok (.aload_n 0, 1) := by decide +kernel
theorem dX4_takeNumber_46 : decode cX4_takeNumber 46 = .ok (.getfield 31, 3) := by decide +kernel
theorem dX4_takeNumber_49 : decode cX4_takeNumber 49 = .ok (.iaload, 1) := by decide +kernel
theorem dX4_takeNumber_50 : decode cX4_takeNumber 50 = .ok (.iadd, 1) := by decide +kernel
theorem dX4_takeNumber_51 : decode cX4_takeNumber 51 = .ok (.bipush 48, 2) := by decide +kernel
theorem dX4_takeNumber_53 : decode cX4_takeNumber 53 = .ok (.isub, 1) := by decide +kernel
theorem dX4_takeNumber_54 : decode cX4_takeNumber 54 = .ok (.invokestatic 98, 3) := by decide +kernel
theorem dX4_takeNumber_57 : decode cX4_takeNumber 57 = .ok (.putfield 69, 3) := by decide +kernel
theorem dX4_takeNumber_60 : decode cX4_takeNumber 60 = .ok (.aload_n 0, 1) := by decide +kernel
theorem dX4_takeNumber_61 : decode cX4_takeNumber 61 = .ok (.dup, 1) := by decide +kernel
theorem dX4_takeNumber_62 : decode cX4_takeNumber 62 = .ok (.getfield 31, 3) := by decide +kernel
theorem dX4_takeNumber_65 : decode cX4_takeNumber 65 = .ok (.iconst 1, 1) := by decide +kernel
theorem dX4_takeNumber_66 : decode cX4_takeNumber 66 = .ok (.iadd, 1) := by decide +kernel
theorem dX4_takeNumber_67 : decode cX4_takeNumber 67 = .ok (.putfield 31, 3) := by decide +kernel
theorem dX4_takeNumber_70 : decode cX4_takeNumber 70 = .ok (.goto (-65), 3) := by decide +kernel
theorem dX4_takeNumber_73 : decode cX4_takeNumber 73 = .ok (.aload_n 0, 1) := by decide +kernel
theorem dX4_takeNumber_74 : decode cX4_takeNumber 74 = .ok (.getfield 9, 3) := by decide +kernel
theorem dX4_takeNumber_77 : decode cX4_takeNumber 77 = .ok (.aload_n 0, 1) := by decide +kernel
theorem dX4_takeNumber_78 : decode cX4_takeNumber 78 = .ok (.getfield 44, 3) := by decide +kernel
theorem dX4_takeNumber_81 : decode cX4_takeNumber 81 = .ok (.iaload, 1) := by decide +kernel
theorem dX4_takeNumber_82 : decode cX4_takeNumber 82 = .ok (.bipush 48, 2) := by decide +kernel
theorem dX4_takeNumber_84 : decode cX4_takeNumber 84 = .ok (.if_icmp .ne 20, 3) := by decide +kernel
theorem dX4_takeNumber_87 : decode cX4_takeNumber 87 = .ok (.aload_n 0, 1) := by decide +kernel
theorem dX4_takeNumber_88 : decode cX4_takeNumber 88 = .ok (.getfield 31, 3) := by decide +kernel
theorem dX4_takeNumber_91 : decode cX4_takeNumber 91 = .ok (.aload_n 0, 1) := by decide +kernel
theorem dX4_takeNumber_92 : decode cX4_takeNumber 92 = .ok (.getfield 44, 3) := by decide +kernel
theorem dX4_takeNumber_95 : decode cX4_takeNumber 95 = .ok (.isub, 1) := by decide +kernel
theorem dX4_takeNumber_96 : decode cX4_takeNumber 96 = .ok (.iconst 1, 1) := by decide +kernel
theorem dX4_takeNumber_97 : decode cX4_takeNumber 97 = .ok (.if_icmp .le 7, 3) := by decide +kernel
theorem dX4_takeNumber_100 : decode cX4_takeNumber 100 = .ok (.iconst 1, 1) := by decide +kernel
theorem dX4_takeNumber_101 : decode cX4_takeNumber 101 = .ok (.goto 4, 3) := by decide +kernel
theorem dX4_takeNumber_104 : decode cX4_takeNumber 104 = .ok (.iconst 0, 1) := by decide +kernel
theorem dX4_takeNumber_105 : decode cX4_takeNumber 105 = .ok (.istore_n 1, 1) := by decide +kernel
theorem dX4_takeNumber_106 : decode cX4_takeNumber 106 = .ok (.aload_n 0, 1) := by decide +kernel
theorem dX4_takeNumber_107 : decode cX4_takeNumber 107 = .ok (.iload_n 1, 1) := by decide +kernel
theorem dX4_takeNumber_108 : decode cX4_takeNumber 108 = .ok (.ifCond .ne 12, 3) := by decide +kernel
theorem dX4_takeNumber_111 : decode cX4_takeNumber 111 = .ok (.aload_n 0, 1) := by decide +kernel
theorem dX4_takeNumber_112 : decode cX4_takeNumber 112 = .ok (.getfield 69, 3) := by decide +kernel
theorem dX4_takeNumber_115 : decode cX4_takeNumber 115 = .ok (.bipush 60, 2) := by decide +kernel
theorem dX4_takeNumber_117 : decode cX4_takeNumber 117 = .ok (.if_icmp .le 8, 3) := by decide +kernel
theorem dX4_takeNumber_120 : decode cX4_takeNumber 120 = .ok (.bipush (-3), 2) := by decide +kernel
theorem dX4_takeNumber_122 : decode cX4_takeNumber 122 = .ok (.goto 4, 3) := by decide +kernel
theorem dX4_takeNumber_125 : decode cX4_takeNumber 125 = .ok (.iconst (-1), 1) := by decide +kernel
theorem dX4_takeNumber_126 : decode cX4_takeNumber 126 = .ok (.putfield 37, 3) := by decide +kernel
theorem dX4_takeNumber_129 : decode cX4_takeNumber 129 = .ok (.return_, 1) := by decide +kernel
theorem dX4_isDigit_0 : decode cX4_isDigit 0 = .ok (.iload_n 0, 1) := by decide +kernel
theorem dX4_isDigit_1 : decode cX4_isDigit 1 = .ok (.bipush 48, 2) := by decide +kernel
theorem dX4_isDigit_3 : decode cX4_isDigit 3 = .ok (.if_icmp .lt 13, 3) := by decide +kernel
theorem dX4_isDigit_6 : decode cX4_isDigit 6 = .ok (.iload_n 0, 1) := by decide +kernel
theorem dX4_isDigit_7 : decode cX4_isDigit 7 = .ok (.bipush 57, 2) := by decide +kernel
theorem dX4_isDigit_9 : decode cX4_isDigit 9 = .ok (.if_icmp .gt 7, 3) := by decide +kernel
theorem dX4_isDigit_12 : decode cX4_isDigit 12 = .ok (.iconst 1, 1) := by decide +kernel
theorem dX4_isDigit_13 : decode cX4_isDigit 13 = .ok (.goto 4, 3) := by decide +kernel
theorem dX4_isDigit_16 : decode cX4_isDigit 16 = .ok (.iconst 0, 1) := by decide +kernel
theorem dX4_isDigit_17 : decode cX4_isDigit 17 = .ok (.ireturn, 1) := by decide +kernel
theorem dX5_init_0 : decode cX5_init 0 = .ok (.aload_n 0, 1) := by decide +kernel
theorem dX5_init_1 : decode cX5_init 1 = .ok (.invokespecial 3, 3) := by decide +kernel
theorem dX5_init_4 : decode cX5_init 4 = .ok (.aload_n 0, 1) := by decide +kernel
theorem dX5_init_5 : decode cX5_init 5 = .ok (.bipush 6, 2) := by decide +kernel
theorem dX5_init_7 : decode cX5_init 7 = .ok (.newarray .int, 2) := by decide +kernel
theorem dX5_init_9 : decode cX5_init 9 = .ok (.putfield 9, 3) := by decide +kernel
theorem dX5_init_12 : decode cX5_init 12 = .ok (.aload_n 0, 1) := by decide +kernel
theorem dX5_init_13 : decode cX5_init 13 = .ok (.iconst 5, 1) := by decide +kernel
theorem dX5_init_14 : decode cX5_init 14 = .ok (.newarray .int, 2) := by decide +kernel
theorem dX5_init_16 : decode cX5_init 16 = .ok (.putfield 15, 3) := by decide +kernel
theorem dX5_init_19 : decode cX5_init 19 = .ok (.aload_n 0, 1) := by decide +kernel
theorem dX5_init_20 : decode cX5_init 20 = .ok (.iconst 5, 1) := by decide +kernel
theorem dX5_init_21 : decode cX5_init 21 = .ok (.newarray .int, 2) := by decide +kernel
theorem dX5_init_23 : decode cX5_init 23 = .ok (.putfield 18, 3) := by decide +kernel
theorem dX5_init_26 : decode cX5_init 26 = .ok (.aload_n 0, 1) := by decide +kernel
theorem dX5_init_27 : decode cX5_init 27 = .ok (.bipush 30, 2) := by decide +kernel
theorem dX5_init_29 : decode cX5_init 29 = .ok (.newarray .int, 2) := by decide +kernel
theorem dX5_init_31 : decode cX5_init 31 = .ok (.putfield 21, 3) := by decide +kernel
theorem dX5_init_34 : decode cX5_init 34 = .ok (.aload_n 0, 1) := by decide +kernel
theorem dX5_init_35 : decode cX5_init 35 = .ok (.getfield 15, 3) := by decide +kernel
theorem dX5_init_38 : decode cX5_init 38 = .ok (.bipush (-9), 2) := by decide +kernel
theorem dX5_init_40 : decode cX5_init 40 = .ok (.invokestatic 24, 3) := by decide +kernel
theorem dX5_init_43 : decode cX5_init 43 = .ok (.return_, 1) := by decide +kernel
theorem dX5_begin_0 : decode cX5_begin 0 = .ok (.aload_n 0, 1) := by decide +kernel
theorem dX5_begin_1 : decode cX5_begin 1 = .ok (.iconst 0, 1) := by decide +kernel
theorem dX5_begin_2 : decode cX5_begin 2 = .ok (.putfield 30, 3) := by decide +kernel
theorem dX5_begin_5 : decode cX5_begin 5 = .ok (.aload_n 1, 1) := by decide +kernel
theorem dX5_begin_6 : decode cX5_begin 6 = .ok (.getfield 34, 3) := by decide +kernel
theorem dX5_begin_9 : decode cX5_begin 9 = .ok (.iconst 0, 1) := by decide +kernel
theorem dX5_begin_10 : decode cX5_begin 10 = .ok (.aload_n 0, 1) := by decide +kernel
theorem dX5_begin_11 : decode cX5_begin 11 = .ok (.getfield 9, 3) := by decide +kernel
theorem dX5_begin_14 : decode cX5_begin 14 = .ok (.iconst 0, 1) := by decide +kernel
theorem dX5_begin_15 : decode cX5_begin 15 = .ok (.bipush 6, 2) := by decide +kernel
theorem dX5_begin_17 : decode cX5_begin 17 = .ok (.invokestatic 37, 3) := by decide +kernel
theorem dX5_begin_20 : decode cX5_begin 20 = .ok (.aload_n 0, 1) := by decide +kernel
theorem dX5_begin_21 : decode cX5_begin 21 = .ok (.getfield 15, 3) := by decide +kernel
theorem dX5_begin_24 : decode cX5_begin 24 = .ok (.bipush (-9), 2) := by decide +kernel
theorem dX5_begin_26 : decode cX5_begin 26 = .ok (.invokestatic 24, 3) := by decide +kernel
theorem dX5_begin_29 : decode cX5_begin 29 = .ok (.aload_n 0, 1) := by decide +kernel
theorem dX5_begin_30 : decode cX5_begin 30 = .ok (.getfield 18, 3) := by decide +kernel
theorem dX5_begin_33 : decode cX5_begin 33 = .ok (.iconst 0, 1) := by decide +kernel
theorem dX5_begin_34 : decode cX5_begin 34 = .ok (.invokestatic 24, 3) := by decide +kernel
theorem dX5_begin_37 : decode cX5_begin 37 = .ok (.aload_n 0, 1) := by decide +kernel
theorem dX5_begin_38 : decode cX5_begin 38 = .ok (.getfield 21, 3) := by decide +kernel
theorem dX5_begin_41 : decode cX5_begin 41 = .ok (.iconst 0, 1) := by decide +kernel
theorem dX5_begin_42 : decode cX5_begin 42 = .ok (.invokestatic 24, 3) := by decide +kernel
theorem dX5_begin_45 : decode cX5_begin 45 = .ok (.return_, 1) := by decide +kernel
theorem dX5_become_0 : decode cX5_become 0 = .ok (.aload_n 0, 1) := by decide +kernel
theorem dX5_become_1 : decode cX5_become 1 = .ok (.aload_n 1, 1) := by decide +kernel
theorem dX5_become_2 : decode cX5_become 2 = .ok (.getfield 30, 3) := by decide +kernel
theorem dX5_become_5 : decode cX5_become 5 = .ok (.putfield 30, 3) := by decide +kernel
theorem dX5_become_8 : decode cX5_become 8 = .ok (.aload_n 1, 1) := by decide +kernel
theorem dX5_become_9 : decode cX5_become 9 = .ok (.getfield 9, 3) := by decide +kernel
theorem dX5_become_12 : decode cX5_become 12 = .ok (.iconst 0, 1) := by decide +kernel
theorem dX5_become_13 : decode cX5_become 13 = .ok (.aload_n 0, 1) := by decide +kernel
theorem dX5_become_14 : decode cX5_become 14 = .ok (.getfield 9, 3) := by decide +kernel
theorem dX5_become_17 : decode cX5_become 17 = .ok (.iconst 0, 1) := by decide +kernel
theorem dX5_become_18 : decode cX5_become 18 = .ok (.bipush 6, 2) := by decide +kernel
theorem dX5_become_20 : decode cX5_become 20 = .ok (.invokestatic 37, 3) := by decide +kernel
theorem dX5_become_23 : decode cX5_become 23 = .ok (.aload_n 1, 1) := by decide +kernel
theorem dX5_become_24 : decode cX5_become 24 = .ok (.getfield 15, 3) := by decide +kernel
theorem dX5_become_27 : decode cX5_become 27 = .ok (.iconst 0, 1) := by decide +kernel
theorem dX5_become_28 : decode cX5_become 28 = .ok (.aload_n 0, 1) := by decide +kernel
theorem dX5_become_29 : decode cX5_become 29 = .ok (.getfield 15, 3) := by decide +kernel
theorem dX5_become_32 : decode cX5_become 32 = .ok (.iconst 0, 1) := by decide +kernel
theorem dX5_become_33 : decode cX5_become 33 = .ok (.iconst 5, 1) := by decide +kernel
theorem dX5_become_34 : decode cX5_become 34 = .ok (.invokestatic 37, 3) := by decide +kernel
theorem dX5_become_37 : decode cX5_become 37 = .ok (.aload_n 1, 1) := by decide +kernel
theorem dX5_become_38 : decode cX5_become 38 = .ok (.getfield 18, 3) := by decide +kernel
theorem dX5_become_41 : decode cX5_become 41 = .ok (.iconst 0, 1) := by decide +kernel
theorem dX5_become_42 : decode cX5_become 42 = .ok (.aload_n 0, 1) := by decide +kernel
theorem dX5_become_43 : decode cX5_become 43 = .ok (.getfield 18, 3) := by decide +kernel
theorem dX5_become_46 : decode cX5_become 46 = .ok (.iconst 0, 1) := by decide +kernel
theorem dX5_become_47 : decode cX5_become 47 = .ok (.iconst 5, 1) := by decide +kernel
theorem dX5_become_48 : decode cX5_become 48 = .ok (.invokestatic 37, 3) := by decide +kernel
theorem dX5_become_51 : decode cX5_become 51 = .ok (.aload_n 1, 1) := by decide +kernel
theorem dX5_become_52 : decode cX5_become 52 = .ok (.getfield 21, 3) := by decide +kernel
theorem dX5_become_55 : decode cX5_become 55 = .ok (.iconst 0, 1) := by decide +kernel
theorem dX5_become_56 : decode cX5_become 56 = .ok (.aload_n 0, 1) := by decide +kernel
theorem dX5_become_57 : decode cX5_become 57 = .ok (.getfield 21, 3) := by decide +kernel
theorem dX5_become_60 : decode cX5_become 60 = .ok (.iconst 0, 1) := by decide +kernel
theorem dX5_become_61 : decode cX5_become 61 = .ok (.bipush 30, 2) := by decide +kernel
theorem dX5_become_63 : decode cX5_become 63 = .ok (.invokestatic 37, 3) := by decide +kernel
theorem dX5_become_66 : decode cX5_become 66 = .ok (.return_, 1) := by decide +kernel
theorem dX5_placeOf_0 : decode cX5_placeOf 0 = .ok (.iconst 0, 1) := by decide +kernel
theorem dX5_placeOf_1 : decode cX5_placeOf 1 = .ok (.istore_n 2, 1) := by decide +kernel
theorem dX5_placeOf_2 : decode cX5_placeOf 2 = .ok (.iload_n 2, 1) := by decide +kernel
theorem dX5_placeOf_3 : decode cX5_placeOf 3 = .ok (.iconst 5, 1) := by decide +kernel
theorem dX5_placeOf_4 : decode cX5_placeOf 4 = .ok (.if_icmp .ge 21, 3) := by decide +kernel
theorem dX5_placeOf_7 : decode cX5_placeOf 7 = .ok (.aload_n 0, 1) := by decide +kernel
theorem dX5_placeOf_8 : decode cX5_placeOf 8 = .ok (.getfield 15, 3) := by decide +kernel
theorem dX5_placeOf_11 : decode cX5_placeOf 11 = .ok (.iload_n 2, 1) := by decide +kernel
theorem dX5_placeOf_12 : decode cX5_placeOf 12 = .ok (.iaload, 1) := by decide +kernel
theorem dX5_placeOf_13 : decode cX5_placeOf 13 = .ok (.iload_n 1, 1) := by decide +kernel
theorem dX5_placeOf_14 : decode cX5_placeOf 14 = .ok (.if_icmp .ne 5, 3) := by decide +kernel
theorem dX5_placeOf_17 : decode cX5_placeOf 17 = .ok (.iload_n 2, 1) := by decide +kernel
theorem dX5_placeOf_18 : decode cX5_placeOf 18 = .ok (.ireturn, 1) := by decide +kernel
theorem dX5_placeOf_19 : decode cX5_placeOf 19 = .ok (.iinc 2 1, 3) := by decide +kernel
theorem dX5_placeOf_22 : decode cX5_placeOf 22 = .ok (.goto (-20), 3) := by decide +kernel
theorem dX5_placeOf_25 : decode cX5_placeOf 25 = .ok (.bipush (-9), 2) := by decide +kernel
theorem dX5_placeOf_27 : decode cX5_placeOf 27 = .ok (.ireturn, 1) := by decide +kernel
theorem dX5_place_0 : decode cX5_place 0 = .ok (.aload_n 0, 1) := by decide +kernel
theorem dX5_place_1 : decode cX5_place 1 = .ok (.getfield 15, 3) := by decide +kernel
theorem dX5_place_4 : decode cX5_place 4 = .ok (.iload_n 2, 1) := by decide +kernel
theorem dX5_place_5 : decode cX5_place 5 = .ok (.iload_n 1, 1) := by decide +kernel
theorem dX5_place_6 : decode cX5_place 6 = .ok (.iastore, 1) := by decide +kernel
theorem dX5_place_7 : decode cX5_place 7 = .ok (.aload_n 0, 1) := by decide +kernel
theorem dX5_place_8 : decode cX5_place 8 = .ok (.getfield 18, 3) := by decide +kernel
theorem dX5_place_11 : decode cX5_place 11 = .ok (.iload_n 2, 1) := by decide +kernel
theorem dX5_place_12 : decode cX5_place 12 = .ok (.iconst 0, 1) := by decide +kernel
theorem dX5_place_13 : decode cX5_place 13 = .ok (.iastore, 1) := by decide +kernel
theorem dX5_place_14 : decode cX5_place 14 = .ok (.return_, 1) := by decide +kernel
theorem dX5_sleepsAt_0 : decode cX5_sleepsAt 0 = .ok (.aload_n 0, 1) := by decide +kernel
theorem dX5_sleepsAt_1 : decode cX5_sleepsAt 1 = .ok (.getfield 15, 3) := by decide +kernel
theorem dX5_sleepsAt_4 : decode cX5_sleepsAt 4 = .ok (.iload_n 1, 1) := by decide +kernel
theorem dX5_sleepsAt_5 : decode cX5_sleepsAt 5 = .ok (.iaload, 1) := by decide +kernel
theorem dX5_sleepsAt_6 : decode cX5_sleepsAt 6 = .ok (.istore_n 2, 1) := by decide +kernel
theorem dX5_sleepsAt_7 : decode cX5_sleepsAt 7 = .ok (.iload_n 2, 1) := by decide +kernel
theorem dX5_sleepsAt_8 : decode cX5_sleepsAt 8 = .ok (.bipush (-9), 2) := by decide +kernel
theorem dX5_sleepsAt_10 : decode cX5_sleepsAt 10 = .ok (.if_icmp .eq 18, 3) := by decide +kernel
theorem dX5_sleepsAt_13 : decode cX5_sleepsAt 13 = .ok (.aload_n 0, 1) := by decide +kernel
theorem dX5_sleepsAt_14 : decode cX5_sleepsAt 14 = .ok (.getfield 9, 3) := by decide +kernel
theorem dX5_sleepsAt_17 : decode cX5_sleepsAt 17 = .ok (.iload_n 2, 1) := by decide +kernel
theorem dX5_sleepsAt_18 : decode cX5_sleepsAt 18 = .ok (.iaload, 1) := by decide +kernel
theorem dX5_sleepsAt_19 : decode cX5_sleepsAt 19 = .ok (.bipush 40, 2) := by decide +kernel
theorem dX5_sleepsAt_21 : decode cX5_sleepsAt 21 = .ok (.if_icmp .lt 7, 3) := by decide +kernel
theorem dX5_sleepsAt_24 : decode cX5_sleepsAt 24 = .ok (.iconst 1, 1) := by decide +kernel
theorem dX5_sleepsAt_25 : decode cX5_sleepsAt 25 = .ok (.goto 4, 3) := by decide +kernel
theorem dX5_sleepsAt_28 : decode cX5_sleepsAt 28 = .ok (.iconst 0, 1) := by decide +kernel
theorem dX5_sleepsAt_29 : decode cX5_sleepsAt 29 = .ok (.ireturn, 1) := by decide +kernel
theorem dX5_mannedPosts_0 : decode cX5_mannedPosts 0 = .ok (.iconst 0, 1) := by decide +kernel
theorem dX5_mannedPosts_1 : decode cX5_mannedPosts 1 = .ok (.istore_n 1, 1) := by decide +kernel
theorem dX5_mannedPosts_2 : decode cX5_mannedPosts 2 = .ok (.iconst 0, 1) := by decide +kernel
theorem dX5_mannedPosts_3 : decode cX5_mannedPosts 3 = .ok (.istore_n 2, 1) := by decide +kernel
theorem dX5_mannedPosts_4 : decode cX5_mannedPosts 4 = .ok (.iload_n 2, 1) := by decide +kernel
theorem dX5_mannedPosts_5 : decode cX5_mannedPosts 5 = .ok (.iconst 5, 1) := by decide +kernel
theorem dX5_mannedPosts_6 : decode cX5_mannedPosts 6 = .ok (.if_icmp .ge 26, 3) := by decide +kernel
theorem dX5_mannedPosts_9 : decode cX5_mannedPosts 9 = .ok (.aload_n 0, 1) := by decide +kernel
theorem dX5_mannedPosts_10 : decode cX5_mannedPosts 10 = .ok (.getfield 15, 3) := by decide +kernel
theorem dX5_mannedPosts_13 : decode cX5_mannedPosts 13 = .ok (.iload_n 2, 1) := by decide +kernel
theorem dX5_mannedPosts_14 : decode cX5_mannedPosts 14 = .ok (.iaload, 1) := by decide +kernel
theorem dX5_mannedPosts_15 : decode cX5_mannedPosts 15 = .ok (.bipush (-9), 2) := by decide +kernel
theorem dX5_mannedPosts_17 : decode cX5_mannedPosts 17 = .ok (.if_icmp .eq 9, 3) := by decide +kernel
theorem dX5_mannedPosts_20 : decode cX5_mannedPosts 20 = .ok (.iload_n 1, 1) := by decide +kernel
theorem dX5_mannedPosts_21 : decode cX5_mannedPosts 21 = .ok (.iconst 1, 1) := by decide +kernel
theorem dX5_mannedPosts_22 : decode cX5_mannedPosts 22 = .ok (.iload_n 2, 1) := by decide +kernel
theorem dX5_mannedPosts_23 : decode cX5_mannedPosts 23 = .ok (.ishl, 1) := by decide +kernel
theorem dX5_mannedPosts_24 : decode cX5_mannedPosts 24 = .ok (.ior, 1) := by decide +kernel
theorem dX5_mannedPosts_25 : decode cX5_mannedPosts 25 = .ok (.istore_n 1, 1) := by decide +kernel
theorem dX5_mannedPosts_26 : decode cX5_mannedPosts 26 = .ok (.iinc 2 1, 3) := by decide +kernel
theorem dX5_mannedPosts_29 : decode cX5_mannedPosts 29 = .ok (.goto (-25), 3) := by decide +kernel
theorem dX5_mannedPosts_32 : decode cX5_mannedPosts 32 = .ok (.iload_n 1, 1) := by decide +kernel
theorem dX5_mannedPosts_33 : decode cX5_mannedPosts 33 = .ok (.ireturn, 1) := by decide +kernel
theorem dX5_sleepingPosts_0 : decode cX5_sleepingPosts 0 = .ok (.iconst 0, 1) := by decide +kernel
theorem dX5_sleepingPosts_1 : decode cX5_sleepingPosts 1 = .ok (.istore_n 1, 1) := by decide +kernel
theorem dX5_sleepingPosts_2 : decode cX5_sleepingPosts 2 = .ok (.iconst 0, 1) := by decide +kernel
theorem dX5_sleepingPosts_3 : decode cX5_sleepingPosts 3 = .ok (.istore_n 2, 1) := by decide +kernel
theorem dX5_sleepingPosts_4 : decode cX5_sleepingPosts 4 = .ok (.iload_n 2, 1) := by decide +kernel
theorem dX5_sleepingPosts_5 : decode cX5_sleepingPosts 5 = .ok (.iconst 5, 1) := by decide +kernel
theorem dX5_sleepingPosts_6 : decode cX5_sleepingPosts 6 = .ok (.if_icmp .ge 23, 3) := by decide +kernel
theorem dX5_sleepingPosts_9 : decode cX5_sleepingPosts 9 = .ok (.aload_n 0, 1) := by decide +kernel
theorem dX5_sleepingPosts_10 : decode cX5_sleepingPosts 10 = .ok (.iload_n 2, 1) := by decide +kernel
theorem dX5_sleepingPosts_11 : decode cX5_sleepingPosts 11 = .ok (.invokevirtual 43, 3) := by decide +kernel
theorem dX5_sleepingPosts_14 : decode cX5_sleepingPosts 14 = .ok (.ifCond .eq 9, 3) := by decide +kernel
theorem dX5_sleepingPosts_17 : decode cX5_sleepingPosts 17 = .ok (.iload_n 1, 1) := by decide +kernel
theorem dX5_sleepingPosts_18 : decode cX5_sleepingPosts 18 = .ok (.iconst 1, 1) := by decide +kernel
theorem dX5_sleepingPosts_19 : decode cX5_sleepingPosts 19 = .ok (.iload_n 2, 1) := by decide +kernel
theorem dX5_sleepingPosts_20 : decode cX5_sleepingPosts 20 = .ok (.ishl, 1) := by decide +kernel
theorem dX5_sleepingPosts_21 : decode cX5_sleepingPosts 21 = .ok (.ior, 1) := by decide +kernel
theorem dX5_sleepingPosts_22 : decode cX5_sleepingPosts 22 = .ok (.istore_n 1, 1) := by decide +kernel
theorem dX5_sleepingPosts_23 : decode cX5_sleepingPosts 23 = .ok (.iinc 2 1, 3) := by decide +kernel
theorem dX5_sleepingPosts_26 : decode cX5_sleepingPosts 26 = .ok (.goto (-22), 3) := by decide +kernel
theorem dX5_sleepingPosts_29 : decode cX5_sleepingPosts 29 = .ok (.iload_n 1, 1) := by decide +kernel
theorem dX5_sleepingPosts_30 : decode cX5_sleepingPosts 30 = .ok (.ireturn, 1) := by decide +kernel
theorem dX5_watchedPosts_0 : decode cX5_watchedPosts 0 = .ok (.aload_n 1, 1) := by decide +kernel
theorem dX5_watchedPosts_1 : decode cX5_watchedPosts 1 = .ok (.aload_n 0, 1) := by decide +kernel
theorem dX5_watchedPosts_2 : decode cX5_watchedPosts 2 = .ok (.invokevirtual 47, 3) := by decide +kernel
theorem dX5_watchedPosts_5 : decode cX5_watchedPosts 5 = .ok (.aload_n 0, 1) := by decide +kernel
theorem dX5_watchedPosts_6 : decode cX5_watchedPosts 6 = .ok (.invokevirtual 51, 3) := by decide +kernel
theorem dX5_watchedPosts_9 : decode cX5_watchedPosts 9 = .ok (.iconst (-1), 1) := by decide +kernel
theorem dX5_watchedPosts_10 : decode cX5_watchedPosts 10 = .ok (.ixor, 1) := by decide +kernel
theorem dX5_watchedPosts_11 : decode cX5_watchedPosts 11 = .ok (.iand, 1) := by decide +kernel
theorem dX5_watchedPosts_12 : decode cX5_watchedPosts 12 = .ok (.invokevirtual 54, 3) := by decide +kernel
theorem dX5_watchedPosts_15 : decode cX5_watchedPosts 15 = .ok (.ireturn, 1) := by decide +kernel
theorem dX5_passHour_0 : decode cX5_passHour 0 = .ok (.iconst 0, 1) := by decide +kernel
theorem dX5_passHour_1 : decode cX5_passHour 1 = .ok (.istore_n 2, 1) := by decide +kernel
theorem dX5_passHour_2 : decode cX5_passHour 2 = .ok (.iload_n 2, 1) := by decide +kernel
theorem dX5_passHour_3 : decode cX5_passHour 3 = .ok (.aload_n 1, 1) := by decide +kernel
theorem dX5_passHour_4 : decode cX5_passHour 4 = .ok (.getfield 58, 3) := by decide +kernel
theorem dX5_passHour_7 : decode cX5_passHour 7 = .ok (.if_icmp .ge 96, 3) := by decide +kernel
theorem dX5_passHour_10 : decode cX5_passHour 10 = .ok (.aload_n 0, 1) := by decide +kernel
theorem dX5_passHour_11 : decode cX5_passHour 11 = .ok (.iload_n 2, 1) := by decide +kernel
theorem dX5_passHour_12 : decode cX5_passHour 12 = .ok (.invokevirtual 61, 3) := by decide +kernel
theorem dX5_passHour_15 : decode cX5_passHour 15 = .ok (.istore_n 3, 1) := by decide +kernel
theorem dX5_passHour_16 : decode cX5_passHour 16 = .ok (.iload_n 3, 1) := by decide +kernel
theorem dX5_passHour_17 : decode cX5_passHour 17 = .ok (.bipush (-9), 2) := by decide +kernel
theorem dX5_passHour_19 : decode cX5_passHour 19 = .ok (.if_icmp .ne 27, 3) := by decide +kernel
theorem dX5_passHour_22 : decode cX5_passHour 22 = .ok (.aload_n 0, 1) := by decide +kernel
theorem dX5_passHour_23 : decode cX5_passHour 23 = .ok (.getfield 9, 3) := by decide +kernel
theorem dX5_passHour_26 : decode cX5_passHour 26 = .ok (.iload_n 2, 1) := by decide +kernel
theorem dX5_passHour_27 : decode cX5_passHour 27 = .ok (.iconst 0, 1) := by decide +kernel
theorem dX5_passHour_28 : decode cX5_passHour 28 = .ok (.aload_n 0, 1) := by decide +kernel
theorem dX5_passHour_29 : decode cX5_passHour 29 = .ok (.getfield 9, 3) := by decide +kernel
theorem dX5_passHour_32 : decode cX5_passHour 32 = .ok (.iload_n 2, 1) := by decide +kernel
theorem dX5_passHour_33 : decode cX5_passHour 33 = .ok (.iaload, 1) := by decide +kernel
theorem dX5_passHour_34 : decode cX5_passHour 34 = .ok (.aload_n 1, 1) := by decide +kernel
theorem dX5_passHour_35 : decode cX5_passHour 35 = .ok (.getfield 64, 3) := by decide +kernel
theorem dX5_passHour_38 : decode cX5_passHour 38 = .ok (.isub, 1) := by decide +kernel
theorem dX5_passHour_39 : decode cX5_passHour 39 = .ok (.invokestatic 67, 3) := by decide +kernel
theorem dX5_passHour_42 : decode cX5_passHour 42 = .ok (.iastore, 1) := by decide +kernel
theorem dX5_passHour_43 : decode cX5_passHour 43 = .ok (.goto 54, 3) := by decide +kernel
theorem dX5_passHour_46 : decode cX5_passHour 46 = .ok (.aload_n 0, 1) := by decide +kernel
theorem dX5_passHour_47 : decode cX5_passHour 47 = .ok (.getfield 9, 3) := by decide +kernel
theorem dX5_passHour_50 : decode cX5_passHour 50 = .ok (.iload_n 2, 1) := by decide +kernel
theorem dX5_passHour_51 : decode cX5_passHour 51 = .ok (.bipush 60, 2) := by decide +kernel
theorem dX5_passHour_53 : decode cX5_passHour 53 = .ok (.aload_n 0, 1) := by decide +kernel
theorem dX5_passHour_54 : decode cX5_passHour 54 = .ok (.getfield 9, 3) := by decide +kernel
theorem dX5_passHour_57 : decode cX5_passHour 57 = .ok (.iload_n 2, 1) := by decide +kernel
theorem dX5_passHour_58 : decode cX5_passHour 58 = .ok (.iaload, 1) := by decide +kernel
theorem dX5_passHour_59 : decode cX5_passHour 59 = .ok (.aload_n 1, 1) := by decide +kernel
theorem dX5_passHour_60 : decode cX5_passHour 60 = .ok (.iload_n 3, 1) := by decide +kernel
theorem dX5_passHour_61 : decode cX5_passHour 61 = .ok (.aload_n 0, 1) := by decide +kernel
theorem dX5_passHour_62 : decode cX5_passHour 62 = .ok (.getfield 30, 3) := by decide +kernel
theorem dX5_passHour_65 : decode cX5_passHour 65 = .ok (.invokevirtual 73, 3) := by decide +kernel
theorem dX5_passHour_68 : decode cX5_passHour 68 = .ok (.iadd, 1) := by decide +kernel
theorem dX5_passHour_69 : decode cX5_passHour 69 = .ok (.invokestatic 76, 3) := by decide +kernel
theorem dX5_passHour_72 : decode cX5_passHour 72 = .ok (.iastore, 1) := by decide +kernel
theorem dX5_passHour_73 : decode cX5_passHour 73 = .ok (.aload_n 0, 1) := by decide +kernel
theorem dX5_passHour_74 : decode cX5_passHour 74 = .ok (.getfield 18, 3) := by decide +kernel
theorem dX5_passHour_77 : decode cX5_passHour 77 = .ok (.iload_n 3, 1) := by decide +kernel
theorem dX5_passHour_78 : decode cX5_passHour 78 = .ok (.dup2, 1) := by decide +kernel
theorem dX5_passHour_79 : decode cX5_passHour 79 = .ok (.iaload, 1) := by decide +kernel
theorem dX5_passHour_80 : decode cX5_passHour 80 = .ok (.iconst 1, 1) := by decide +kernel
theorem dX5_passHour_81 : decode cX5_passHour 81 = .ok (.iadd, 1) := by decide +kernel
theorem dX5_passHour_82 : decode cX5_passHour 82 = .ok (.iastore, 1) := by decide +kernel
theorem dX5_passHour_83 : decode cX5_passHour 83 = .ok (.aload_n 0, 1) := by decide +kernel
theorem dX5_passHour_84 : decode cX5_passHour 84 = .ok (.getfield 21, 3) := by decide +kernel
theorem dX5_passHour_87 : decode cX5_passHour 87 = .ok (.iload_n 2, 1) := by decide +kernel
theorem dX5_passHour_88 : decode cX5_passHour 88 = .ok (.iconst 5, 1) := by decide +kernel
theorem dX5_passHour_89 : decode cX5_passHour 89 = .ok (.imul, 1) := by decide +kernel
theorem dX5_passHour_90 : decode cX5_passHour 90 = .ok (.iload_n 3, 1) := by decide +kernel
theorem dX5_passHour_91 : decode cX5_passHour 91 = .ok (.iadd, 1) := by decide +kernel
theorem dX5_passHour_92 : decode cX5_passHour 92 = .ok (.dup2, 1) := by decide +kernel
theorem dX5_passHour_93 : decode cX5_passHour 93 = .ok (.iaload, 1) := by decide +kernel
theorem dX5_passHour_94 : decode cX5_passHour 94 = .ok (.iconst 1, 1) := by decide +kernel
theorem dX5_passHour_95 : decode cX5_passHour 95 = .ok (.iadd, 1) := by decide +kernel
theorem dX5_passHour_96 : decode cX5_passHour 96 = .ok (.iastore, 1) := by decide +kernel
theorem dX5_passHour_97 : decode cX5_passHour 97 = .ok (.iinc 2 1, 3) := by decide +kernel
theorem dX5_passHour_100 : decode cX5_passHour 100 = .ok (.goto (-98), 3) := by decide +kernel
theorem dX5_passHour_103 : decode cX5_passHour 103 = .ok (.aload_n 0, 1) := by decide +kernel
theorem dX5_passHour_104 : decode cX5_passHour 104 = .ok (.dup, 1) := by decide +kernel
theorem dX5_passHour_105 : decode cX5_passHour 105 = .ok (.getfield 30, 3) := by decide +kernel
theorem dX5_passHour_108 : decode cX5_passHour 108 = .ok (.iconst 1, 1) := by decide +kernel
theorem dX5_passHour_109 : decode cX5_passHour 109 = .ok (.iadd, 1) := by decide +kernel
theorem dX5_passHour_110 : decode cX5_passHour 110 = .ok (.putfield 30, 3) := by decide +kernel
theorem dX5_passHour_113 : decode cX5_passHour 113 = .ok (.return_, 1) := by decide +kernel
theorem dX5_bringRelief_0 : decode cX5_bringRelief 0 = .ok (.iconst 0, 1) := by decide +kernel
theorem dX5_bringRelief_1 : decode cX5_bringRelief 1 = .ok (.istore 4, 2) := by decide +kernel
theorem dX5_bringRelief_3 : decode cX5_bringRelief 3 = .ok (.iconst 0, 1) := by decide +kernel
theorem dX5_bringRelief_4 : decode cX5_bringRelief 4 = .ok (.istore 5, 2) := by decide +kernel
theorem dX5_bringRelief_6 : decode cX5_bringRelief 6 = .ok (.iload_n 2, 1) := by decide +kernel
theorem dX5_bringRelief_7 : decode cX5_bringRelief 7 = .ok (.istore 6, 2) := by decide +kernel
theorem dX5_bringRelief_9 : decode cX5_bringRelief 9 = .ok (.iconst 0, 1) := by decide +kernel
theorem dX5_bringRelief_10 : decode cX5_bringRelief 10 = .ok (.istore 7, 2) := by decide +kernel
theorem dX5_bringRelief_12 : decode cX5_bringRelief 12 = .ok (.iload 7, 2) := by decide +kernel
theorem dX5_bringRelief_14 : decode cX5_bringRelief 14 = .ok (.aload_n 1, 1) := by decide +kernel
theorem dX5_bringRelief_15 : decode cX5_bringRelief 15 = .ok (.getfield 79, 3) := by decide +kernel
theorem dX5_bringRelief_18 : decode cX5_bringRelief 18 = .ok (.if_icmp .ge 89, 3) := by decide +kernel
theorem dX5_bringRelief_21 : decode cX5_bringRelief 21 = .ok (.aload_n 0, 1) := by decide +kernel
theorem dX5_bringRelief_22 : decode cX5_bringRelief 22 = .ok (.getfield 15, 3) := by decide +kernel
theorem dX5_bringRelief_25 : decode cX5_bringRelief 25 = .ok (.iload 6, 2) := by decide +kernel
theorem dX5_bringRelief_27 : decode cX5_bringRelief 27 = .ok (.iaload, 1) := by decide +kernel
theorem dX5_bringRelief_28 : decode cX5_bringRelief 28 = .ok (.istore 8, 2) := by decide +kernel
theorem dX5_bringRelief_30 : decode cX5_bringRelief 30 = .ok (.iload 8, 2) := by decide +kernel
theorem dX5_bringRelief_32 : decode cX5_bringRelief 32 = .ok (.bipush (-9), 2) := by decide +kernel
theorem dX5_bringRelief_34 : decode cX5_bringRelief 34 = .ok (.if_icmp .eq 27, 3) := by decide +kernel
theorem dX5_bringRelief_37 : decode cX5_bringRelief 37 = .ok (.aload_n 0, 1) := by decide +kernel
theorem dX5_bringRelief_38 : decode cX5_bringRelief 38 = .ok (.getfield 18, 3) := by decide +kernel
theorem dX5_bringRelief_41 : decode cX5_bringRelief 41 = .ok (.iload 6, 2) := by decide +kernel
theorem dX5_bringRelief_43 : decode cX5_bringRelief 43 = .ok (.iaload, 1) := by decide +kernel
theorem dX5_bringRelief_44 : decode cX5_bringRelief 44 = .ok (.aload_n 1, 1) := by decide +kernel
theorem dX5_bringRelief_45 : decode cX5_bringRelief 45 = .ok (.getfield 82, 3) := by decide +kernel
theorem dX5_bringRelief_48 : decode cX5_bringRelief 48 = .ok (.if_icmp .lt 13, 3) := by decide +kernel
theorem dX5_bringRelief_51 : decode cX5_bringRelief 51 = .ok (.aload_n 0, 1) := by decide +kernel
theorem dX5_bringRelief_52 : decode cX5_bringRelief 52 = .ok (.aload_n 1, 1) := by decide +kernel
theorem dX5_bringRelief_53 : decode cX5_bringRelief 53 = .ok (.iload 5, 2) := by decide +kernel
theorem dX5_bringRelief_55 : decode cX5_bringRelief 55 = .ok (.invokevirtual 85, 3) := by decide +kernel
theorem dX5_bringRelief_58 : decode cX5_bringRelief 58 = .ok (.goto 5, 3) := by decide +kernel
theorem dX5_bringRelief_61 : decode cX5_bringRelief 61 = .ok (.bipush (-9), 2) := by decide +kernel
theorem dX5_bringRelief_63 : decode cX5_bringRelief 63 = .ok (.istore 9, 2) := by decide +kernel
theorem dX5_bringRelief_65 : decode cX5_bringRelief 65 = .ok (.iload 9, 2) := by decide +kernel
theorem dX5_bringRelief_67 : decode cX5_bringRelief 67 = .ok (.bipush (-9), 2) := by decide +kernel
theorem dX5_bringRelief_69 : decode cX5_bringRelief 69 = .ok (.if_icmp .eq 23, 3) := by decide +kernel
theorem dX5_bringRelief_72 : decode cX5_bringRelief 72 = .ok (.iload 5, 2) := by decide +kernel
theorem dX5_bringRelief_74 : decode cX5_bringRelief 74 = .ok (.iconst 1, 1) := by decide +kernel
theorem dX5_bringRelief_75 : decode cX5_bringRelief 75 = .ok (.iload 8, 2) := by decide +kernel
theorem dX5_bringRelief_77 : decode cX5_bringRelief 77 = .ok (.ishl, 1) := by decide +kernel
theorem dX5_bringRelief_78 : decode cX5_bringRelief 78 = .ok (.ior, 1) := by decide +kernel
theorem dX5_bringRelief_79 : decode cX5_bringRelief 79 = .ok (.istore 5, 2) := by decide +kernel
theorem dX5_bringRelief_81 : decode cX5_bringRelief 81 = .ok (.aload_n 0, 1) := by decide +kernel
theorem dX5_bringRelief_82 : decode cX5_bringRelief 82 = .ok (.iload 9, 2) := by decide +kernel
theorem dX5_bringRelief_84 : decode cX5_bringRelief 84 = .ok (.iload 6, 2) := by decide +kernel
theorem dX5_bringRelief_86 : decode cX5_bringRelief 86 = .ok (.invokevirtual 89, 3) := by decide +kernel
theorem dX5_bringRelief_89 : decode cX5_bringRelief 89 = .ok (.iinc 4 1, 3) := by decide +kernel
theorem dX5_bringRelief_92 : decode cX5_bringRelief 92 = .ok (.aload_n 1, 1) := by decide +kernel
theorem dX5_bringRelief_93 : decode cX5_bringRelief 93 = .ok (.iload 6, 2) := by decide +kernel
theorem dX5_bringRelief_95 : decode cX5_bringRelief 95 = .ok (.iload_n 3, 1) := by decide +kernel
theorem dX5_bringRelief_96 : decode cX5_bringRelief 96 = .ok (.invokevirtual 93, 3) := by decide +kernel
theorem dX5_bringRelief_99 : decode cX5_bringRelief 99 = .ok (.istore 6, 2) := by decide +kernel
theorem dX5_bringRelief_101 : decode cX5_bringRelief 101 = .ok (.iinc 7 1, 3) := by decide +kernel
theorem dX5_bringRelief_104 : decode cX5_bringRelief 104 = .ok (.goto (-92), 3) := by decide +kernel
theorem dX5_bringRelief_107 : decode cX5_bringRelief 107 = .ok (.iload 4, 2) := by decide +kernel
theorem dX5_bringRelief_109 : decode cX5_bringRelief 109 = .ok (.ireturn, 1) := by decide +kernel
theorem dX5_freshestMan_0 : decode cX5_freshestMan 0 = .ok (.bipush (-9), 2) := by decide +kernel
theorem dX5_freshestMan_2 : decode cX5_freshestMan 2 = .ok (.istore_n 3, 1) := by decide +kernel
theorem dX5_freshestMan_3 : decode cX5_freshestMan 3 = .ok (.iconst 0, 1) := by decide +kernel
theorem dX5_freshestMan_4 : decode cX5_freshestMan 4 = .ok (.istore 4, 2) := by decide +kernel
theorem dX5_freshestMan_6 : decode cX5_freshestMan 6 = .ok (.iload 4, 2) := by decide +kernel
theorem dX5_freshestMan_8 : decode cX5_freshestMan 8 = .ok (.aload_n 1, 1) := by decide +kernel
theorem dX5_freshestMan_9 : decode cX5_freshestMan 9 = .ok (.getfield 58, 3) := by decide +kernel
theorem dX5_freshestMan_12 : decode cX5_freshestMan 12 = .ok (.if_icmp .ge 66, 3) := by decide +kernel
theorem dX5_freshestMan_15 : decode cX5_freshestMan 15 = .ok (.iload_n 2, 1) := by decide +kernel
theorem dX5_freshestMan_16 : decode cX5_freshestMan 16 = .ok (.iload 4, 2) := by decide +kernel
theorem dX5_freshestMan_18 : decode cX5_freshestMan 18 = .ok (.ishr, 1) := by decide +kernel
theorem dX5_freshestMan_19 : decode cX5_freshestMan 19 = .ok (.iconst 1, 1) := by decide +kernel
theorem dX5_freshestMan_20 : decode cX5_freshestMan 20 = .ok (.iand, 1) := by decide +kernel
theorem dX5_freshestMan_21 : decode cX5_freshestMan 21 = .ok (.ifCond .ne 18, 3) := by decide +kernel
theorem dX5_freshestMan_24 : decode cX5_freshestMan 24 = .ok (.aload_n 0, 1) := by decide +kernel
theorem dX5_freshestMan_25 : decode cX5_freshestMan 25 = .ok (.iload 4, 2) := by decide +kernel
theorem dX5_freshestMan_27 : decode cX5_freshestMan 27 = .ok (.invokevirtual 61, 3) := by decide +kernel
theorem dX5_freshestMan_30 : decode cX5_freshestMan 30 = .ok (.bipush (-9), 2) := by decide +kernel
theorem dX5_freshestMan_32 : decode cX5_freshestMan 32 = .ok (.if_icmp .ne 7, 3) := by decide +kernel
theorem dX5_freshestMan_35 : decode cX5_freshestMan 35 = .ok (.iconst 1, 1) := by decide +kernel
theorem dX5_freshestMan_36 : decode cX5_freshestMan 36 = .ok (.goto 4, 3) := by decide +kernel
theorem dX5_freshestMan_39 : decode cX5_freshestMan 39 = .ok (.iconst 0, 1) := by decide +kernel
theorem dX5_freshestMan_40 : decode cX5_freshestMan 40 = .ok (.istore 5, 2) := by decide +kernel
theorem dX5_freshestMan_42 : decode cX5_freshestMan 42 = .ok (.iload 5, 2) := by decide +kernel
theorem dX5_freshestMan_44 : decode cX5_freshestMan 44 = .ok (.ifCond .eq 28, 3) := by decide +kernel
theorem dX5_freshestMan_47 : decode cX5_freshestMan 47 = .ok (.iload_n 3, 1) := by decide +kernel
theorem dX5_freshestMan_48 : decode cX5_freshestMan 48 = .ok (.bipush (-9), 2) := by decide +kernel
theorem dX5_freshestMan_50 : decode cX5_freshestMan 50 = .ok (.if_icmp .eq 19, 3) := by decide +kernel
theorem dX5_freshestMan_53 : decode cX5_freshestMan 53 = .ok (.aload_n 0, 1) := by decide +kernel
theorem dX5_freshestMan_54 : decode cX5_freshestMan 54 = .ok (.getfield 9, 3) := by decide +kernel
theorem dX5_freshestMan_57 : decode cX5_freshestMan 57 = .ok (.iload 4, 2) := by decide +kernel
theorem dX5_freshestMan_59 : decode cX5_freshestMan 59 = .ok (.iaload, 1) := by decide +kernel
theorem dX5_freshestMan_60 : decode cX5_freshestMan 60 = .ok (.aload_n 0, 1) := by decide +kernel
theorem dX5_freshestMan_61 : decode cX5_freshestMan 61 = .ok (.getfield 9, 3) := by decide +kernel
theorem dX5_freshestMan_64 : decode cX5_freshestMan 64 = .ok (.iload_n 3, 1) := by decide +kernel
theorem dX5_freshestMan_65 : decode cX5_freshestMan 65 = .ok (.iaload, 1) := by decide +kernel
theorem dX5_freshestMan_66 : decode cX5_freshestMan 66 = .ok (.if_icmp .ge 6, 3) := by decide +kernel
theorem dX5_freshestMan_69 : decode cX5_freshestMan 69 = .ok (.iload 4, 2) := by decide +kernel
theorem dX5_freshestMan_71 : decode cX5_freshestMan 71 = .ok (.istore_n 3, 1) := by decide +kernel
theorem dX5_freshestMan_72 : decode cX5_freshestMan 72 = .ok (.iinc 4 1, 3) := by decide +kernel
theorem dX5_freshestMan_75 : decode cX5_freshestMan 75 = .ok (.goto (-69), 3) := by decide +kernel
theorem dX5_freshestMan_78 : decode cX5_freshestMan 78 = .ok (.iload_n 3, 1) := by decide +kernel
theorem dX5_freshestMan_79 : decode cX5_freshestMan 79 = .ok (.ireturn, 1) := by decide +kernel
theorem dX5_advance_0 : decode cX5_advance 0 = .ok (.aload_n 0, 1) := by decide +kernel
theorem dX5_advance_1 : decode cX5_advance 1 = .ok (.aload_n 1, 1) := by decide +kernel
theorem dX5_advance_2 : decode cX5_advance 2 = .ok (.invokevirtual 96, 3) := by decide +kernel
theorem dX5_advance_5 : decode cX5_advance 5 = .ok (.iload_n 2, 1) := by decide +kernel
theorem dX5_advance_6 : decode cX5_advance 6 = .ok (.iconst 1, 1) := by decide +kernel
theorem dX5_advance_7 : decode cX5_advance 7 = .ok (.if_icmp .ne 11, 3) := by decide +kernel
theorem dX5_advance_10 : decode cX5_advance 10 = .ok (.aload_n 0, 1) := by decide +kernel
theorem dX5_advance_11 : decode cX5_advance 11 = .ok (.aload_n 1, 1) := by decide +kernel
theorem dX5_advance_12 : decode cX5_advance 12 = .ok (.iconst 0, 1) := by decide +kernel
theorem dX5_advance_13 : decode cX5_advance 13 = .ok (.iconst 1, 1) := by decide +kernel
theorem dX5_advance_14 : decode cX5_advance 14 = .ok (.invokevirtual 100, 3) := by decide +kernel
theorem dX5_advance_17 : decode cX5_advance 17 = .ok (.pop, 1) := by decide +kernel
theorem dX5_advance_18 : decode cX5_advance 18 = .ok (.return_, 1) := by decide +kernel
theorem dX5_greatestDebt_0 : decode cX5_greatestDebt 0 = .ok (.iconst 0, 1) := by decide +kernel
theorem dX5_greatestDebt_1 : decode cX5_greatestDebt 1 = .ok (.istore_n 2, 1) := by decide +kernel
theorem dX5_greatestDebt_2 : decode cX5_greatestDebt 2 = .ok (.iconst 0, 1) := by decide +kernel
theorem dX5_greatestDebt_3 : decode cX5_greatestDebt 3 = .ok (.istore_n 3, 1) := by decide +kernel
theorem dX5_greatestDebt_4 : decode cX5_greatestDebt 4 = .ok (.iload_n 3, 1) := by decide +kernel
theorem dX5_greatestDebt_5 : decode cX5_greatestDebt 5 = .ok (.aload_n 1, 1) := by decide +kernel
theorem dX5_greatestDebt_6 : decode cX5_greatestDebt 6 = .ok (.getfield 58, 3) := by decide +kernel
theorem dX5_greatestDebt_9 : decode cX5_greatestDebt 9 = .ok (.if_icmp .ge 20, 3) := by decide +kernel
theorem dX5_greatestDebt_12 : decode cX5_greatestDebt 12 = .ok (.iload_n 2, 1) := by decide +kernel
theorem dX5_greatestDebt_13 : decode cX5_greatestDebt 13 = .ok (.aload_n 0, 1) := by decide +kernel
theorem dX5_greatestDebt_14 : decode cX5_greatestDebt 14 = .ok (.getfield 9, 3) := by decide +kernel
theorem dX5_greatestDebt_17 : decode cX5_greatestDebt 17 = .ok (.iload_n 3, 1) := by decide +kernel
theorem dX5_greatestDebt_18 : decode cX5_greatestDebt 18 = .ok (.iaload, 1) := by decide +kernel
theorem dX5_greatestDebt_19 : decode cX5_greatestDebt 19 = .ok (.invokestatic 67, 3) := by decide +kernel
theorem dX5_greatestDebt_22 : decode cX5_greatestDebt 22 = .ok (.istore_n 2, 1) := by decide +kernel
theorem dX5_greatestDebt_23 : decode cX5_greatestDebt 23 = .ok (.iinc 3 1, 3) := by decide +kernel
theorem dX5_greatestDebt_26 : decode cX5_greatestDebt 26 = .ok (.goto (-22), 3) := by decide +kernel
theorem dX5_greatestDebt_29 : decode cX5_greatestDebt 29 = .ok (.iload_n 2, 1) := by decide +kernel
theorem dX5_greatestDebt_30 : decode cX5_greatestDebt 30 = .ok (.ireturn, 1) := by decide +kernel
theorem dX5_debtOnPost_0 : decode cX5_debtOnPost 0 = .ok (.iconst 0, 1) := by decide +kernel
theorem dX5_debtOnPost_1 : decode cX5_debtOnPost 1 = .ok (.istore_n 1, 1) := by decide +kernel
theorem dX5_debtOnPost_2 : decode cX5_debtOnPost 2 = .ok (.iconst 0, 1) := by decide +kernel
theorem dX5_debtOnPost_3 : decode cX5_debtOnPost 3 = .ok (.istore_n 2, 1) := by decide +kernel
theorem dX5_debtOnPost_4 : decode cX5_debtOnPost 4 = .ok (.iload_n 2, 1) := by decide +kernel
theorem dX5_debtOnPost_5 : decode cX5_debtOnPost 5 = .ok (.iconst 5, 1) := by decide +kernel
theorem dX5_debtOnPost_6 : decode cX5_debtOnPost 6 = .ok (.if_icmp .ge 34, 3) := by decide +kernel
theorem dX5_debtOnPost_9 : decode cX5_debtOnPost 9 = .ok (.aload_n 0, 1) := by decide +kernel
theorem dX5_debtOnPost_10 : decode cX5_debtOnPost 10 = .ok (.getfield 15, 3) := by decide +kernel
theorem dX5_debtOnPost_13 : decode cX5_debtOnPost 13 = .ok (.iload_n 2, 1) := by decide +kernel
theorem dX5_debtOnPost_14 : decode cX5_debtOnPost 14 = .ok (.iaload, 1) := by decide +kernel
theorem dX5_debtOnPost_15 : decode cX5_debtOnPost 15 = .ok (.bipush (-9), 2) := by decide +kernel
theorem dX5_debtOnPost_17 : decode cX5_debtOnPost 17 = .ok (.if_icmp .eq 17, 3) := by decide +kernel
theorem dX5_debtOnPost_20 : decode cX5_debtOnPost 20 = .ok (.iload_n 1, 1) := by decide +kernel
theorem dX5_debtOnPost_21 : decode cX5_debtOnPost 21 = .ok (.aload_n 0, 1) := by decide +kernel
theorem dX5_debtOnPost_22 : decode cX5_debtOnPost 22 = .ok (.getfield 9, 3) := by decide +kernel
theorem dX5_debtOnPost_25 : decode cX5_debtOnPost 25 = .ok (.aload_n 0, 1) := by decide +kernel
theorem dX5_debtOnPost_26 : decode cX5_debtOnPost 26 = .ok (.getfield 15, 3) := by decide +kernel
theorem dX5_debtOnPost_29 : decode cX5_debtOnPost 29 = .ok (.iload_n 2, 1) := by decide +kernel
theorem dX5_debtOnPost_30 : decode cX5_debtOnPost 30 = .ok (.iaload, 1) := by decide +kernel
theorem dX5_debtOnPost_31 : decode cX5_debtOnPost 31 = .ok (.iaload, 1) := by decide +kernel
theorem dX5_debtOnPost_32 : decode cX5_debtOnPost 32 = .ok (.iadd, 1) := by decide +kernel
theorem dX5_debtOnPost_33 : decode cX5_debtOnPost 33 = .ok (.istore_n 1, 1) := by decide +kernel
theorem dX5_debtOnPost_34 : decode cX5_debtOnPost 34 = .ok (.iinc 2 1, 3) := by decide +kernel
theorem dX5_debtOnPost_37 : decode cX5_debtOnPost 37 = .ok (.goto (-33), 3) := by decide +kernel
theorem dX5_debtOnPost_40 : decode cX5_debtOnPost 40 = .ok (.iload_n 1, 1) := by decide +kernel
theorem dX5_debtOnPost_41 : decode cX5_debtOnPost 41 = .ok (.ireturn, 1) := by decide +kernel
theorem dX5_coldOf_0 : decode cX5_coldOf 0 = .ok (.iconst 0, 1) := by decide +kernel
theorem dX5_coldOf_1 : decode cX5_coldOf 1 = .ok (.istore_n 3, 1) := by decide +kernel
theorem dX5_coldOf_2 : decode cX5_coldOf 2 = .ok (.iconst 0, 1) := by decide +kernel
theorem dX5_coldOf_3 : decode cX5_coldOf 3 = .ok (.istore 4, 2) := by decide +kernel
theorem dX5_coldOf_5 : decode cX5_coldOf 5 = .ok (.iload 4, 2) := by decide +kernel
theorem dX5_coldOf_7 : decode cX5_coldOf 7 = .ok (.aload_n 1, 1) := by decide +kernel
theorem dX5_coldOf_8 : decode cX5_coldOf 8 = .ok (.getfield 79, 3) := by decide +kernel
theorem dX5_coldOf_11 : decode cX5_coldOf 11 = .ok (.if_icmp .ge 31, 3) := by decide +kernel
theorem dX5_coldOf_14 : decode cX5_coldOf 14 = .ok (.iload_n 3, 1) := by decide +kernel
theorem dX5_coldOf_15 : decode cX5_coldOf 15 = .ok (.aload_n 0, 1) := by decide +kernel
theorem dX5_coldOf_16 : decode cX5_coldOf 16 = .ok (.getfield 21, 3) := by decide +kernel
theorem dX5_coldOf_19 : decode cX5_coldOf 19 = .ok (.iload_n 2, 1) := by decide +kernel
theorem dX5_coldOf_20 : decode cX5_coldOf 20 = .ok (.iconst 5, 1) := by decide +kernel
theorem dX5_coldOf_21 : decode cX5_coldOf 21 = .ok (.imul, 1) := by decide +kernel
theorem dX5_coldOf_22 : decode cX5_coldOf 22 = .ok (.iload 4, 2) := by decide +kernel
theorem dX5_coldOf_24 : decode cX5_coldOf 24 = .ok (.iadd, 1) := by decide +kernel
theorem dX5_coldOf_25 : decode cX5_coldOf 25 = .ok (.iaload, 1) := by decide +kernel
theorem dX5_coldOf_26 : decode cX5_coldOf 26 = .ok (.aload_n 1, 1) := by decide +kernel
theorem dX5_coldOf_27 : decode cX5_coldOf 27 = .ok (.getfield 104, 3) := by decide +kernel
theorem dX5_coldOf_30 : decode cX5_coldOf 30 = .ok (.iload 4, 2) := by decide +kernel
theorem dX5_coldOf_32 : decode cX5_coldOf 32 = .ok (.iaload, 1) := by decide +kernel
theorem dX5_coldOf_33 : decode cX5_coldOf 33 = .ok (.imul, 1) := by decide +kernel
theorem dX5_coldOf_34 : decode cX5_coldOf 34 = .ok (.iadd, 1) := by decide +kernel
theorem dX5_coldOf_35 : decode cX5_coldOf 35 = .ok (.istore_n 3, 1) := by decide +kernel
theorem dX5_coldOf_36 : decode cX5_coldOf 36 = .ok (.iinc 4 1, 3) := by decide +kernel
theorem dX5_coldOf_39 : decode cX5_coldOf 39 = .ok (.goto (-34), 3) := by decide +kernel
theorem dX5_coldOf_42 : decode cX5_coldOf 42 = .ok (.iload_n 3, 1) := by decide +kernel
theorem dX5_coldOf_43 : decode cX5_coldOf 43 = .ok (.ireturn, 1) := by decide +kernel
theorem dX6_init_0 : decode cX6_init 0 = .ok (.aload_n 0, 1) := by decide +kernel
theorem dX6_init_1 : decode cX6_init 1 = .ok (.invokespecial 1, 3) := by decide +kernel
theorem dX6_init_4 : decode cX6_init 4 = .ok (.aload_n 0, 1) := by decide +kernel
theorem dX6_init_5 : decode cX6_init 5 = .ok (.new 7, 3) := by decide +kernel
theorem dX6_init_8 : decode cX6_init 8 = .ok (.dup, 1) := by decide +kernel
theorem dX6_init_9 : decode cX6_init 9 = .ok (.invokespecial 9, 3) := by decide +kernel
theorem dX6_init_12 : decode cX6_init 12 = .ok (.putfield 10, 3) := by decide +kernel
theorem dX6_init_15 : decode cX6_init 15 = .ok (.aload_n 0, 1) := by decide +kernel
theorem dX6_init_16 : decode cX6_init 16 = .ok (.new 16, 3) := by decide +kernel
theorem dX6_init_19 : decode cX6_init 19 = .ok (.dup, 1) := by decide +kernel
theorem dX6_init_20 : decode cX6_init 20 = .ok (.invokespecial 18, 3) := by decide +kernel
theorem dX6_init_23 : decode cX6_init 23 = .ok (.putfield 19, 3) := by decide +kernel
theorem dX6_init_26 : decode cX6_init 26 = .ok (.aload_n 0, 1) := by decide +kernel
theorem dX6_init_27 : decode cX6_init 27 = .ok (.new 16, 3) := by decide +kernel
theorem dX6_init_30 : decode cX6_init 30 = .ok (.dup, 1) := by decide +kernel
theorem dX6_init_31 : decode cX6_init 31 = .ok (.invokespecial 18, 3) := by decide +kernel
theorem dX6_init_34 : decode cX6_init 34 = .ok (.putfield 23, 3) := by decide +kernel
theorem dX6_init_37 : decode cX6_init 37 = .ok (.aload_n 0, 1) := by decide +kernel
theorem dX6_init_38 : decode cX6_init 38 = .ok (.new 26, 3) := by decide +kernel
theorem dX6_init_41 : decode cX6_init 41 = .ok (.dup, 1) := by decide +kernel
theorem dX6_init_42 : decode cX6_init 42 = .ok (.invokespecial 28, 3) := by decide +kernel
theorem dX6_init_45 : decode cX6_init 45 = .ok (.putfield 29, 3) := by decide +kernel
theorem dX6_init_48 : decode cX6_init 48 = .ok (.aload_n 0, 1) := by decide +kernel
theorem dX6_init_49 : decode cX6_init 49 = .ok (.new 26, 3) := by decide +kernel
theorem dX6_init_52 : decode cX6_init 52 = .ok (.dup, 1) := by decide +kernel
theorem dX6_init_53 : decode cX6_init 53 = .ok (.invokespecial 28, 3) := by decide +kernel
theorem dX6_init_56 : decode cX6_init 56 = .ok (.putfield 33, 3) := by decide +kernel
theorem dX6_init_59 : decode cX6_init 59 = .ok (.aload_n 0, 1) := by decide +kernel
theorem dX6_init_60 : decode cX6_init 60 = .ok (.new 36, 3) := by decide +kernel
theorem dX6_init_63 : decode cX6_init 63 = .ok (.dup, 1) := by decide +kernel
theorem dX6_init_64 : decode cX6_init 64 = .ok (.invokespecial 38, 3) := by decide +kernel
theorem dX6_init_67 : decode cX6_init 67 = .ok (.putfield 39, 3) := by decide +kernel
theorem dX6_init_70 : decode cX6_init 70 = .ok (.aload_n 0, 1) := by decide +kernel
theorem dX6_init_71 : decode cX6_init 71 = .ok (.iconst 2, 1) := by decide +kernel
theorem dX6_init_72 : decode cX6_init 72 = .ok (.anewarray 26, 3) := by decide +kernel
theorem dX6_init_75 : decode cX6_init 75 = .ok (.putfield 43, 3) := by decide +kernel
theorem dX6_init_78 : decode cX6_init 78 = .ok (.aload_n 0, 1) := by decide +kernel
theorem dX6_init_79 : decode cX6_init 79 = .ok (.iconst 2, 1) := by decide +kernel
theorem dX6_init_80 : decode cX6_init 80 = .ok (.newarray .boolean, 2) := by decide +kernel
theorem dX6_init_82 : decode cX6_init 82 = .ok (.putfield 47, 3) := by decide +kernel
theorem dX6_init_85 : decode cX6_init 85 = .ok (.aload_n 0, 1) := by decide +kernel
theorem dX6_init_86 : decode cX6_init 86 = .ok (.new 51, 3) := by decide +kernel
theorem dX6_init_89 : decode cX6_init 89 = .ok (.dup, 1) := by decide +kernel
theorem dX6_init_90 : decode cX6_init 90 = .ok (.invokespecial 53, 3) := by decide +kernel
theorem dX6_init_93 : decode cX6_init 93 = .ok (.putfield 54, 3) := by decide +kernel
theorem dX6_init_96 : decode cX6_init 96 = .ok (.aload_n 0, 1) := by decide +kernel
theorem dX6_init_97 : decode cX6_init 97 = .ok (.new 58, 3) := by decide +kernel
theorem dX6_init_100 : decode cX6_init 100 = .ok (.dup, 1) := by decide +kernel
theorem dX6_init_101 : decode cX6_init 101 = .ok (.invokespecial 60, 3) := by decide +kernel
theorem dX6_init_104 : decode cX6_init 104 = .ok (.putfield 61, 3) := by decide +kernel
theorem dX6_init_107 : decode cX6_init 107 = .ok (.iconst 0, 1) := by decide +kernel
theorem dX6_init_108 : decode cX6_init 108 = .ok (.istore_n 1, 1) := by decide +kernel
theorem dX6_init_109 : decode cX6_init 109 = .ok (.iload_n 1, 1) := by decide +kernel
theorem dX6_init_110 : decode cX6_init 110 = .ok (.iconst 2, 1) := by decide +kernel
theorem dX6_init_111 : decode cX6_init 111 = .ok (.if_icmp .ge 22, 3) := by decide +kernel
theorem dX6_init_114 : decode cX6_init 114 = .ok (.aload_n 0, 1) := by decide +kernel
theorem dX6_init_115 : decode cX6_init 115 = .ok (.getfield 43, 3) := by decide +kernel
theorem dX6_init_118 : decode cX6_init 118 = .ok (.iload_n 1, 1) := by decide +kernel
theorem dX6_init_119 : decode cX6_init 119 = .ok (.new 26, 3) := by decide +kernel
theorem dX6_init_122 : decode cX6_init 122 = .ok (.dup, 1) := by decide +kernel
theorem dX6_init_123 : decode cX6_init 123 = .ok (.invokespecial 28, 3) := by decide +kernel
theorem dX6_init_126 : decode cX6_init 126 = .ok (.aastore, 1) := by decide +kernel
theorem dX6_init_127 : decode cX6_init 127 = .ok (.iinc 1 1, 3) := by decide +kernel
theorem dX6_init_130 : decode cX6_init 130 = .ok (.goto (-21), 3) := by decide +kernel
theorem dX6_init_133 : decode cX6_init 133 = .ok (.return_, 1) := by decide +kernel
theorem dX6_type_0 : decode cX6_type 0 = .ok (.iload_n 1, 1) := by decide +kernel
theorem dX6_type_1 : decode cX6_type 1 = .ok (.iconst 0, 1) := by decide +kernel
theorem dX6_type_2 : decode cX6_type 2 = .ok (.sipush 255, 3) := by decide +kernel
theorem dX6_type_5 : decode cX6_type 5 = .ok (.invokestatic 65, 3) := by decide +kernel
theorem dX6_type_8 : decode cX6_type 8 = .ok (.ifCond .ne 5, 3) := by decide +kernel
theorem dX6_type_11 : decode cX6_type 11 = .ok (.iconst (-1), 1) := by decide +kernel
theorem dX6_type_12 : decode cX6_type 12 = .ok (.ireturn, 1) := by decide +kernel
theorem dX6_type_13 : decode cX6_type 13 = .ok (.aload_n 0, 1) := by decide +kernel
theorem dX6_type_14 : decode cX6_type 14 = .ok (.getfield 10, 3) := by decide +kernel
theorem dX6_type_17 : decode cX6_type 17 = .ok (.iload_n 1, 1) := by decide +kernel
theorem dX6_type_18 : decode cX6_type 18 = .ok (.invokevirtual 69, 3) := by decide +kernel
theorem dX6_type_21 : decode cX6_type 21 = .ok (.ifCond .eq 13, 3) := by decide +kernel
theorem dX6_type_24 : decode cX6_type 24 = .ok (.aload_n 0, 1) := by decide +kernel
theorem dX6_type_25 : decode cX6_type 25 = .ok (.getfield 10, 3) := by decide +kernel
theorem dX6_type_28 : decode cX6_type 28 = .ok (.getfield 73, 3) := by decide +kernel
theorem dX6_type_31 : decode cX6_type 31 = .ok (.goto 5, 3) := by decide +kernel
theorem dX6_type_34 : decode cX6_type 34 = .ok (.bipush (-3), 2) := by decide +kernel
theorem dX6_type_36 : decode cX6_type 36 = .ok (.ireturn, 1) := by decide +kernel
theorem dX6_clear_0 : decode cX6_clear 0 = .ok (.aload_n 0, 1) := by decide +kernel
theorem dX6_clear_1 : decode cX6_clear 1 = .ok (.getfield 10, 3) := by decide +kernel
theorem dX6_clear_4 : decode cX6_clear 4 = .ok (.getfield 73, 3) := by decide +kernel
theorem dX6_clear_7 : decode cX6_clear 7 = .ok (.istore_n 1, 1) := by decide +kernel
theorem dX6_clear_8 : decode cX6_clear 8 = .ok (.aload_n 0, 1) := by decide +kernel
theorem dX6_clear_9 : decode cX6_clear 9 = .ok (.getfield 10, 3) := by decide +kernel
theorem dX6_clear_12 : decode cX6_clear 12 = .ok (.iconst 0, 1) := by decide +kernel
theorem dX6_clear_13 : decode cX6_clear 13 = .ok (.putfield 73, 3) := by decide +kernel
theorem dX6_clear_16 : decode cX6_clear 16 = .ok (.iload_n 1, 1) := by decide +kernel
theorem dX6_clear_17 : decode cX6_clear 17 = .ok (.ireturn, 1) := by decide +kernel
theorem dX6_depot_0 : decode cX6_depot 0 = .ok (.aload_n 0, 1) := by decide +kernel
theorem dX6_depot_1 : decode cX6_depot 1 = .ok (.getfield 10, 3) := by decide +kernel
theorem dX6_depot_4 : decode cX6_depot 4 = .ok (.aload_n 0, 1) := by decide +kernel
theorem dX6_depot_5 : decode cX6_depot 5 = .ok (.getfield 23, 3) := by decide +kernel
theorem dX6_depot_8 : decode cX6_depot 8 = .ok (.invokevirtual 77, 3) := by decide +kernel
theorem dX6_depot_11 : decode cX6_depot 11 = .ok (.istore_n 1, 1) := by decide +kernel
theorem dX6_depot_12 : decode cX6_depot 12 = .ok (.iload_n 1, 1) := by decide +kernel
theorem dX6_depot_13 : decode cX6_depot 13 = .ok (.ifCond .lt 26, 3) := by decide +kernel
theorem dX6_depot_16 : decode cX6_depot 16 = .ok (.aload_n 0, 1) := by decide +kernel
theorem dX6_depot_17 : decode cX6_depot 17 = .ok (.getfield 19, 3) := by decide +kernel
theorem dX6_depot_20 : decode cX6_depot 20 = .ok (.aload_n 0, 1) := by decide +kernel
theorem dX6_depot_21 : decode cX6_depot 21 = .ok (.getfield 23, 3) := by decide +kernel
theorem dX6_depot_24 : decode cX6_depot 24 = .ok (.invokevirtual 81, 3) := by decide +kernel
theorem dX6_depot_27 : decode cX6_depot 27 = .ok (.aload_n 0, 1) := by decide +kernel
theorem dX6_depot_28 : decode cX6_depot 28 = .ok (.getfield 10, 3) := by decide +kernel
theorem dX6_depot_31 : decode cX6_depot 31 = .ok (.iconst 0, 1) := by decide +kernel
theorem dX6_depot_32 : decode cX6_depot 32 = .ok (.putfield 73, 3) := by decide +kernel
theorem dX6_depot_35 : decode cX6_depot 35 = .ok (.aload_n 0, 1) := by decide +kernel
theorem dX6_depot_36 : decode cX6_depot 36 = .ok (.invokevirtual 85, 3) := by decide +kernel
theorem dX6_depot_39 : decode cX6_depot 39 = .ok (.iload_n 1, 1) := by decide +kernel
theorem dX6_depot_40 : decode cX6_depot 40 = .ok (.ireturn, 1) := by decide +kernel
theorem dX6_post_0 : decode cX6_post 0 = .ok (.aload_n 0, 1) := by decide +kernel
theorem dX6_post_1 : decode cX6_post 1 = .ok (.iload_n 1, 1) := by decide +kernel
theorem dX6_post_2 : decode cX6_post 2 = .ok (.invokevirtual 88, 3) := by decide +kernel
theorem dX6_post_5 : decode cX6_post 5 = .ok (.ifCond .ne 5, 3) := by decide +kernel
theorem dX6_post_8 : decode cX6_post 8 = .ok (.iconst (-1), 1) := by decide +kernel
theorem dX6_post_9 : decode cX6_post 9 = .ok (.ireturn, 1) := by decide +kernel
theorem dX6_post_10 : decode cX6_post 10 = .ok (.iload_n 2, 1) := by decide +kernel
theorem dX6_post_11 : decode cX6_post 11 = .ok (.tableswitch 68 0 3 #[29, 38, 48, 58], 29) := by decide +kernel
theorem dX6_post_40 : decode cX6_post 40 = .ok (.aload_n 0, 1) := by decide +kernel
theorem dX6_post_41 : decode cX6_post 41 = .ok (.getfield 19, 3) := by decide +kernel
theorem dX6_post_44 : decode cX6_post 44 = .ok (.iload_n 1, 1) := by decide +kernel
theorem dX6_post_45 : decode cX6_post 45 = .ok (.invokevirtual 91, 3) := by decide +kernel
theorem dX6_post_48 : decode cX6_post 48 = .ok (.ireturn, 1) := by decide +kernel
theorem dX6_post_49 : decode cX6_post 49 = .ok (.aload_n 0, 1) := by decide +kernel
theorem dX6_post_50 : decode cX6_post 50 = .ok (.getfield 19, 3) := by decide +kernel
theorem dX6_post_53 : decode cX6_post 53 = .ok (.getfield 95, 3) := by decide +kernel
theorem dX6_post_56 : decode cX6_post 56 = .ok (.iload_n 1, 1) := by decide +kernel
theorem dX6_post_57 : decode cX6_post 57 = .ok (.iaload, 1) := by decide +kernel
theorem dX6_post_58 : decode cX6_post 58 = .ok (.ireturn, 1) := by decide +kernel
theorem dX6_post_59 : decode cX6_post 59 = .ok (.aload_n 0, 1) := by decide +kernel
theorem dX6_post_60 : decode cX6_post 60 = .ok (.getfield 29, 3) := by decide +kernel
theorem dX6_post_63 : decode cX6_post 63 = .ok (.getfield 99, 3) := by decide +kernel
theorem dX6_post_66 : decode cX6_post 66 = .ok (.iload_n 1, 1) := by decide +kernel
theorem dX6_post_67 : decode cX6_post 67 = .ok (.iaload, 1) := by decide +kernel
theorem dX6_post_68 : decode cX6_post 68 = .ok (.ireturn, 1) := by decide +kernel
theorem dX6_post_69 : decode cX6_post 69 = .ok (.aload_n 0, 1) := by decide +kernel
theorem dX6_post_70 : decode cX6_post 70 = .ok (.getfield 29, 3) := by decide +kernel
theorem dX6_post_73 : decode cX6_post 73 = .ok (.getfield 102, 3) := by decide +kernel
theorem dX6_post_76 : decode cX6_post 76 = .ok (.iload_n 1, 1) := by decide +kernel
theorem dX6_post_77 : decode cX6_post 77 = .ok (.iaload, 1) := by decide +kernel
theorem dX6_post_78 : decode cX6_post 78 = .ok (.ireturn, 1) := by decide +kernel
theorem dX6_post_79 : decode cX6_post 79 = .ok (.iconst (-1), 1) := by decide +kernel
theorem dX6_post_80 : decode cX6_post 80 = .ok (.ireturn, 1) := by decide +kernel
theorem dX6_man_0 : decode cX6_man 0 = .ok (.aload_n 0, 1) := by decide +kernel
theorem dX6_man_1 : decode cX6_man 1 = .ok (.iload_n 1, 1) := by decide +kernel
theorem dX6_man_2 : decode cX6_man 2 = .ok (.invokevirtual 105, 3) := by decide +kernel
theorem dX6_man_5 : decode cX6_man 5 = .ok (.ifCond .ne 5, 3) := by decide +kernel
theorem dX6_man_8 : decode cX6_man 8 = .ok (.iconst (-1), 1) := by decide +kernel
theorem dX6_man_9 : decode cX6_man 9 = .ok (.ireturn, 1) := by decide +kernel
theorem dX6_man_10 : decode cX6_man 10 = .ok (.aload_n 0, 1) := by decide +kernel
theorem dX6_man_11 : decode cX6_man 11 = .ok (.getfield 29, 3) := by decide +kernel
theorem dX6_man_14 : decode cX6_man 14 = .ok (.iload_n 1, 1) := by decide +kernel
theorem dX6_man_15 : decode cX6_man 15 = .ok (.invokevirtual 108, 3) := by decide +kernel
theorem dX6_man_18 : decode cX6_man 18 = .ok (.istore_n 3, 1) := by decide +kernel
theorem dX6_man_19 : decode cX6_man 19 = .ok (.iload_n 2, 1) := by decide +kernel
theorem dX6_man_20 : decode cX6_man 20 = .ok (.tableswitch 63 0 2 #[28, 38, 40], 28) := by decide +kernel
theorem dX6_man_48 : decode cX6_man 48 = .ok (.aload_n 0, 1) := by decide +kernel
theorem dX6_man_49 : decode cX6_man 49 = .ok (.getfield 29, 3) := by decide +kernel
theorem dX6_man_52 : decode cX6_man 52 = .ok (.getfield 111, 3) := by decide +kernel
theorem dX6_man_55 : decode cX6_man 55 = .ok (.iload_n 1, 1) := by decide +kernel
theorem dX6_man_56 : decode cX6_man 56 = .ok (.iaload, 1) := by decide +kernel
theorem dX6_man_57 : decode cX6_man 57 = .ok (.ireturn, 1) := by decide +kernel
theorem dX6_man_58 : decode cX6_man 58 = .ok (.iload_n 3, 1) := by decide +kernel
theorem dX6_man_59 : decode cX6_man 59 = .ok (.ireturn, 1) := by decide +kernel
theorem dX6_man_60 : decode cX6_man 60 = .ok (.iload_n 3, 1) := by decide +kernel
theorem dX6_man_61 : decode cX6_man 61 = .ok (.bipush (-9), 2) := by decide +kernel
theorem dX6_man_63 : decode cX6_man 63 = .ok (.if_icmp .eq 18, 3) := by decide +kernel
theorem dX6_man_66 : decode cX6_man 66 = .ok (.aload_n 0, 1) := by decide +kernel
theorem dX6_man_67 : decode cX6_man 67 = .ok (.getfield 29, 3) := by decide +kernel
theorem dX6_man_70 : decode cX6_man 70 = .ok (.iload_n 3, 1) := by decide +kernel
theorem dX6_man_71 : decode cX6_man 71 = .ok (.invokevirtual 114, 3) := by decide +kernel
theorem dX6_man_74 : decode cX6_man 74 = .ok (.ifCond .eq 7, 3) := by decide +kernel
theorem dX6_man_77 : decode cX6_man 77 = .ok (.iconst 1, 1) := by decide +kernel
theorem dX6_man_78 : decode cX6_man 78 = .ok (.goto 4, 3) := by decide +kernel
theorem dX6_man_81 : decode cX6_man 81 = .ok (.iconst 0, 1) := by decide +kernel
theorem dX6_man_82 : decode cX6_man 82 = .ok (.ireturn, 1) := by decide +kernel
theorem dX6_man_83 : decode cX6_man 83 = .ok (.iconst (-1), 1) := by decide +kernel
theorem dX6_man_84 : decode cX6_man 84 = .ok (.ireturn, 1) := by decide +kernel
theorem dX6_now_0 : decode cX6_now 0 = .ok (.iload_n 1, 1) := by decide +kernel
theorem dX6_now_1 : decode cX6_now 1 = .ok (.tableswitch 79 0 4 #[35, 43, 51, 59, 71], 35) := by decide +kernel
theorem dX6_now_36 : decode cX6_now 36 = .ok (.aload_n 0, 1) := by decide +kernel
theorem dX6_now_37 : decode cX6_now 37 = .ok (.getfield 29, 3) := by decide +kernel
theorem dX6_now_40 : decode cX6_now 40 = .ok (.getfield 117, 3) := by decide +kernel
theorem dX6_now_43 : decode cX6_now 43 = .ok (.ireturn, 1) := by decide +kernel
theorem dX6_now_44 : decode cX6_now 44 = .ok (.aload_n 0, 1) := by decide +kernel
theorem dX6_now_45 : decode cX6_now 45 = .ok (.getfield 29, 3) := by decide +kernel
theorem dX6_now_48 : decode cX6_now 48 = .ok (.invokevirtual 120, 3) := by decide +kernel
theorem dX6_now_51 : decode cX6_now 51 = .ok (.ireturn, 1) := by decide +kernel
theorem dX6_now_52 : decode cX6_now 52 = .ok (.aload_n 0, 1) := by decide +kernel
theorem dX6_now_53 : decode cX6_now 53 = .ok (.getfield 29, 3) := by decide +kernel
theorem dX6_now_56 : decode cX6_now 56 = .ok (.invokevirtual 124, 3) := by decide +kernel
theorem dX6_now_59 : decode cX6_now 59 = .ok (.ireturn, 1) := by decide +kernel
theorem dX6_now_60 : decode cX6_now 60 = .ok (.aload_n 0, 1) := by decide +kernel
theorem dX6_now_61 : decode cX6_now 61 = .ok (.getfield 29, 3) := by decide +kernel
theorem dX6_now_64 : decode cX6_now 64 = .ok (.aload_n 0, 1) := by decide +kernel
theorem dX6_now_65 : decode cX6_now 65 = .ok (.getfield 19, 3) := by decide +kernel
theorem dX6_now_68 : decode cX6_now 68 = .ok (.invokevirtual 127, 3) := by decide +kernel
theorem dX6_now_71 : decode cX6_now 71 = .ok (.ireturn, 1) := by decide +kernel
theorem dX6_now_72 : decode cX6_now 72 = .ok (.aload_n 0, 1) := by decide +kernel
theorem dX6_now_73 : decode cX6_now 73 = .ok (.getfield 39, 3) := by decide +kernel
theorem dX6_now_76 : decode cX6_now 76 = .ok (.getfield 130, 3) := by decide +kernel
theorem dX6_now_79 : decode cX6_now 79 = .ok (.ireturn, 1) := by decide +kernel
theorem dX6_now_80 : decode cX6_now 80 = .ok (.iconst (-1), 1) := by decide +kernel
theorem dX6_now_81 : decode cX6_now 81 = .ok (.ireturn, 1) := by decide +kernel
theorem dX6_sends_0 : decode cX6_sends 0 = .ok (.aload_n 0, 1) := by decide +kernel
theorem dX6_sends_1 : decode cX6_sends 1 = .ok (.iload_n 1, 1) := by decide +kernel
theorem dX6_sends_2 : decode cX6_sends 2 = .ok (.invokevirtual 105, 3) := by decide +kernel
theorem dX6_sends_5 : decode cX6_sends 5 = .ok (.ifCond .eq 11, 3) := by decide +kernel
theorem dX6_sends_8 : decode cX6_sends 8 = .ok (.aload_n 0, 1) := by decide +kernel
theorem dX6_sends_9 : decode cX6_sends 9 = .ok (.iload_n 2, 1) := by decide +kernel
theorem dX6_sends_10 : decode cX6_sends 10 = .ok (.invokevirtual 88, 3) := by decide +kernel
theorem dX6_sends_13 : decode cX6_sends 13 = .ok (.ifCond .ne 5, 3) := by decide +kernel
theorem dX6_sends_16 : decode cX6_sends 16 = .ok (.iconst (-1), 1) := by decide +kernel
theorem dX6_sends_17 : decode cX6_sends 17 = .ok (.ireturn, 1) := by decide +kernel
theorem dX6_sends_18 : decode cX6_sends 18 = .ok (.aload_n 0, 1) := by decide +kernel
theorem dX6_sends_19 : decode cX6_sends 19 = .ok (.getfield 29, 3) := by decide +kernel
theorem dX6_sends_22 : decode cX6_sends 22 = .ok (.getfield 99, 3) := by decide +kernel
theorem dX6_sends_25 : decode cX6_sends 25 = .ok (.iload_n 2, 1) := by decide +kernel
theorem dX6_sends_26 : decode cX6_sends 26 = .ok (.iaload, 1) := by decide +kernel
theorem dX6_sends_27 : decode cX6_sends 27 = .ok (.bipush (-9), 2) := by decide +kernel
theorem dX6_sends_29 : decode cX6_sends 29 = .ok (.if_icmp .ne 16, 3) := by decide +kernel
theorem dX6_sends_32 : decode cX6_sends 32 = .ok (.aload_n 0, 1) := by decide +kernel
theorem dX6_sends_33 : decode cX6_sends 33 = .ok (.getfield 29, 3) := by decide +kernel
theorem dX6_sends_36 : decode cX6_sends 36 = .ok (.iload_n 1, 1) := by decide +kernel
theorem dX6_sends_37 : decode cX6_sends 37 = .ok (.invokevirtual 108, 3) := by decide +kernel
theorem dX6_sends_40 : decode cX6_sends 40 = .ok (.bipush (-9), 2) := by decide +kernel
theorem dX6_sends_42 : decode cX6_sends 42 = .ok (.if_icmp .eq 6, 3) := by decide +kernel
theorem dX6_sends_45 : decode cX6_sends 45 = .ok (.bipush (-2), 2) := by decide +kernel
theorem dX6_sends_47 : decode cX6_sends 47 = .ok (.ireturn, 1) := by decide +kernel
theorem dX6_sends_48 : decode cX6_sends 48 = .ok (.aload_n 0, 1) := by decide +kernel
theorem dX6_sends_49 : decode cX6_sends 49 = .ok (.getfield 39, 3) := by decide +kernel
theorem dX6_sends_52 : decode cX6_sends 52 = .ok (.aload_n 0, 1) := by decide +kernel
theorem dX6_sends_53 : decode cX6_sends 53 = .ok (.getfield 29, 3) := by decide +kernel
theorem dX6_sends_56 : decode cX6_sends 56 = .ok (.invokevirtual 133, 3) := by decide +kernel
theorem dX6_sends_59 : decode cX6_sends 59 = .ok (.aload_n 0, 1) := by decide +kernel
theorem dX6_sends_60 : decode cX6_sends 60 = .ok (.getfield 29, 3) := by decide +kernel
theorem dX6_sends_63 : decode cX6_sends 63 = .ok (.iload_n 1, 1) := by decide +kernel
theorem dX6_sends_64 : decode cX6_sends 64 = .ok (.iload_n 2, 1) := by decide +kernel
theorem dX6_sends_65 : decode cX6_sends 65 = .ok (.invokevirtual 137, 3) := by decide +kernel
theorem dX6_sends_68 : decode cX6_sends 68 = .ok (.aload_n 0, 1) := by decide +kernel
theorem dX6_sends_69 : decode cX6_sends 69 = .ok (.getfield 29, 3) := by decide +kernel
theorem dX6_sends_72 : decode cX6_sends 72 = .ok (.invokevirtual 120, 3) := by decide +kernel
theorem dX6_sends_75 : decode cX6_sends 75 = .ok (.invokestatic 141, 3) := by decide +kernel
theorem dX6_sends_78 : decode cX6_sends 78 = .ok (.ireturn, 1) := by decide +kernel
theorem dX6_calls_0 : decode cX6_calls 0 = .ok (.aload_n 0, 1) := by decide +kernel
theorem dX6_calls_1 : decode cX6_calls 1 = .ok (.iload_n 1, 1) := by decide +kernel
theorem dX6_calls_2 : decode cX6_calls 2 = .ok (.invokevirtual 88, 3) := by decide +kernel
theorem dX6_calls_5 : decode cX6_calls 5 = .ok (.ifCond .ne 5, 3) := by decide +kernel
theorem dX6_calls_8 : decode cX6_calls 8 = .ok (.iconst (-1), 1) := by decide +kernel
theorem dX6_calls_9 : decode cX6_calls 9 = .ok (.ireturn, 1) := by decide +kernel
theorem dX6_calls_10 : decode cX6_calls 10 = .ok (.aload_n 0, 1) := by decide +kernel
theorem dX6_calls_11 : decode cX6_calls 11 = .ok (.getfield 29, 3) := by decide +kernel
theorem dX6_calls_14 : decode cX6_calls 14 = .ok (.getfield 99, 3) := by decide +kernel
theorem dX6_calls_17 : decode cX6_calls 17 = .ok (.iload_n 1, 1) := by decide +kernel
theorem dX6_calls_18 : decode cX6_calls 18 = .ok (.iaload, 1) := by decide +kernel
theorem dX6_calls_19 : decode cX6_calls 19 = .ok (.istore_n 2, 1) := by decide +kernel
theorem dX6_calls_20 : decode cX6_calls 20 = .ok (.iload_n 2, 1) := by decide +kernel
theorem dX6_calls_21 : decode cX6_calls 21 = .ok (.bipush (-9), 2) := by decide +kernel
theorem dX6_calls_23 : decode cX6_calls 23 = .ok (.if_icmp .ne 6, 3) := by decide +kernel
theorem dX6_calls_26 : decode cX6_calls 26 = .ok (.bipush (-2), 2) := by decide +kernel
theorem dX6_calls_28 : decode cX6_calls 28 = .ok (.ireturn, 1) := by decide +kernel
theorem dX6_calls_29 : decode cX6_calls 29 = .ok (.aload_n 0, 1) := by decide +kernel
theorem dX6_calls_30 : decode cX6_calls 30 = .ok (.getfield 39, 3) := by decide +kernel
theorem dX6_calls_33 : decode cX6_calls 33 = .ok (.aload_n 0, 1) := by decide +kernel
theorem dX6_calls_34 : decode cX6_calls 34 = .ok (.getfield 29, 3) := by decide +kernel
theorem dX6_calls_37 : decode cX6_calls 37 = .ok (.invokevirtual 133, 3) := by decide +kernel
theorem dX6_calls_40 : decode cX6_calls 40 = .ok (.aload_n 0, 1) := by decide +kernel
theorem dX6_calls_41 : decode cX6_calls 41 = .ok (.getfield 29, 3) := by decide +kernel
theorem dX6_calls_44 : decode cX6_calls 44 = .ok (.bipush (-9), 2) := by decide +kernel
theorem dX6_calls_46 : decode cX6_calls 46 = .ok (.iload_n 1, 1) := by decide +kernel
theorem dX6_calls_47 : decode cX6_calls 47 = .ok (.invokevirtual 137, 3) := by decide +kernel
theorem dX6_calls_50 : decode cX6_calls 50 = .ok (.iload_n 2, 1) := by decide +kernel
theorem dX6_calls_51 : decode cX6_calls 51 = .ok (.ireturn, 1) := by decide +kernel
theorem dX6_hour_0 : decode cX6_hour 0 = .ok (.aload_n 0, 1) := by decide +kernel
theorem dX6_hour_1 : decode cX6_hour 1 = .ok (.getfield 29, 3) := by decide +kernel
theorem dX6_hour_4 : decode cX6_hour 4 = .ok (.getfield 117, 3) := by decide +kernel
theorem dX6_hour_7 : decode cX6_hour 7 = .ok (.sipush 200, 3) := by decide +kernel
theorem dX6_hour_10 : decode cX6_hour 10 = .ok (.if_icmp .lt 6, 3) := by decide +kernel
theorem dX6_hour_13 : decode cX6_hour 13 = .ok (.bipush (-2), 2) := by decide +kernel
theorem dX6_hour_15 : decode cX6_hour 15 = .ok (.ireturn, 1) := by decide +kernel
theorem dX6_hour_16 : decode cX6_hour 16 = .ok (.aload_n 0, 1) := by decide +kernel
theorem dX6_hour_17 : decode cX6_hour 17 = .ok (.getfield 39, 3) := by decide +kernel
theorem dX6_hour_20 : decode cX6_hour 20 = .ok (.aload_n 0, 1) := by decide +kernel
theorem dX6_hour_21 : decode cX6_hour 21 = .ok (.getfield 29, 3) := by decide +kernel
theorem dX6_hour_24 : decode cX6_hour 24 = .ok (.invokevirtual 133, 3) := by decide +kernel
theorem dX6_hour_27 : decode cX6_hour 27 = .ok (.aload_n 0, 1) := by decide +kernel
theorem dX6_hour_28 : decode cX6_hour 28 = .ok (.getfield 29, 3) := by decide +kernel
theorem dX6_hour_31 : decode cX6_hour 31 = .ok (.aload_n 0, 1) := by decide +kernel
theorem dX6_hour_32 : decode cX6_hour 32 = .ok (.getfield 19, 3) := by decide +kernel
theorem dX6_hour_35 : decode cX6_hour 35 = .ok (.invokevirtual 146, 3) := by decide +kernel
theorem dX6_hour_38 : decode cX6_hour 38 = .ok (.aload_n 0, 1) := by decide +kernel
theorem dX6_hour_39 : decode cX6_hour 39 = .ok (.getfield 29, 3) := by decide +kernel
theorem dX6_hour_42 : decode cX6_hour 42 = .ok (.invokevirtual 124, 3) := by decide +kernel
theorem dX6_hour_45 : decode cX6_hour 45 = .ok (.ireturn, 1) := by decide +kernel
theorem dX6_relieves_0 : decode cX6_relieves 0 = .ok (.aload_n 0, 1) := by decide +kernel
theorem dX6_relieves_1 : decode cX6_relieves 1 = .ok (.iload_n 1, 1) := by decide +kernel
theorem dX6_relieves_2 : decode cX6_relieves 2 = .ok (.invokevirtual 88, 3) := by decide +kernel
theorem dX6_relieves_5 : decode cX6_relieves 5 = .ok (.ifCond .eq 12, 3) := by decide +kernel
theorem dX6_relieves_8 : decode cX6_relieves 8 = .ok (.iload_n 2, 1) := by decide +kernel
theorem dX6_relieves_9 : decode cX6_relieves 9 = .ok (.iconst 0, 1) := by decide +kernel
theorem dX6_relieves_10 : decode cX6_relieves 10 = .ok (.iconst 1, 1) := by decide +kernel
theorem dX6_relieves_11 : decode cX6_relieves 11 = .ok (.invokestatic 65, 3) := by decide +kernel
theorem dX6_relieves_14 : decode cX6_relieves 14 = .ok (.ifCond .ne 5, 3) := by decide +kernel
theorem dX6_relieves_17 : decode cX6_relieves 17 = .ok (.iconst (-1), 1) := by decide +kernel
theorem dX6_relieves_18 : decode cX6_relieves 18 = .ok (.ireturn, 1) := by decide +kernel
theorem dX6_relieves_19 : decode cX6_relieves 19 = .ok (.aload_n 0, 1) := by decide +kernel
theorem dX6_relieves_20 : decode cX6_relieves 20 = .ok (.getfield 39, 3) := by decide +kernel
theorem dX6_relieves_23 : decode cX6_relieves 23 = .ok (.aload_n 0, 1) := by decide +kernel
theorem dX6_relieves_24 : decode cX6_relieves 24 = .ok (.getfield 29, 3) := by decide +kernel
theorem dX6_relieves_27 : decode cX6_relieves 27 = .ok (.invokevirtual 133, 3) := by decide +kernel
theorem dX6_relieves_30 : decode cX6_relieves 30 = .ok (.aload_n 0, 1) := by decide +kernel
theorem dX6_relieves_31 : decode cX6_relieves 31 = .ok (.getfield 29, 3) := by decide +kernel
theorem dX6_relieves_34 : decode cX6_relieves 34 = .ok (.aload_n 0, 1) := by decide +kernel
theorem dX6_relieves_35 : decode cX6_relieves 35 = .ok (.getfield 19, 3) := by decide +kernel
theorem dX6_relieves_38 : decode cX6_relieves 38 = .ok (.iload_n 1, 1) := by decide +kernel
theorem dX6_relieves_39 : decode cX6_relieves 39 = .ok (.iload_n 2, 1) := by decide +kernel
theorem dX6_relieves_40 : decode cX6_relieves 40 = .ok (.invokevirtual 149, 3) := by decide +kernel
theorem dX6_relieves_43 : decode cX6_relieves 43 = .ok (.ireturn, 1) := by decide +kernel
theorem dX6_undo_0 : decode cX6_undo 0 = .ok (.aload_n 0, 1) := by decide +kernel
theorem dX6_undo_1 : decode cX6_undo 1 = .ok (.getfield 39, 3) := by decide +kernel
theorem dX6_undo_4 : decode cX6_undo 4 = .ok (.getfield 130, 3) := by decide +kernel
theorem dX6_undo_7 : decode cX6_undo 7 = .ok (.ifCond .ne 6, 3) := by decide +kernel
theorem dX6_undo_10 : decode cX6_undo 10 = .ok (.bipush (-2), 2) := by decide +kernel
theorem dX6_undo_12 : decode cX6_undo 12 = .ok (.ireturn, 1) := by decide +kernel
theorem dX6_undo_13 : decode cX6_undo 13 = .ok (.aload_n 0, 1) := by decide +kernel
theorem dX6_undo_14 : decode cX6_undo 14 = .ok (.getfield 39, 3) := by decide +kernel
theorem dX6_undo_17 : decode cX6_undo 17 = .ok (.aload_n 0, 1) := by decide +kernel
theorem dX6_undo_18 : decode cX6_undo 18 = .ok (.getfield 29, 3) := by decide +kernel
theorem dX6_undo_21 : decode cX6_undo 21 = .ok (.invokevirtual 153, 3) := by decide +kernel
theorem dX6_undo_24 : decode cX6_undo 24 = .ok (.aload_n 0, 1) := by decide +kernel
theorem dX6_undo_25 : decode cX6_undo 25 = .ok (.getfield 39, 3) := by decide +kernel
theorem dX6_undo_28 : decode cX6_undo 28 = .ok (.getfield 130, 3) := by decide +kernel
theorem dX6_undo_31 : decode cX6_undo 31 = .ok (.ireturn, 1) := by decide +kernel
theorem dX6_inHours_0 : decode cX6_inHours 0 = .ok (.iload_n 1, 1) := by decide +kernel
theorem dX6_inHours_1 : decode cX6_inHours 1 = .ok (.iconst 0, 1) := by decide +kernel
