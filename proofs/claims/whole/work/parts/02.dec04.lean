theorem dX4_checks_2 : decode cX4_checks 2 = .ok (.invokevirtual 213, 3) := by decide +kernel
theorem dX4_checks_5 : decode cX4_checks 5 = .ok (.ifCond .eq 7, 3) := by decide +kernel
theorem dX4_checks_8 : decode cX4_checks 8 = .ok (.iconst 1, 1) := by decide +kernel
theorem dX4_checks_9 : decode cX4_checks 9 = .ok (.goto 4, 3) := by decide +kernel
theorem dX4_checks_12 : decode cX4_checks 12 = .ok (.iconst 0, 1) := by decide +kernel
theorem dX4_checks_13 : decode cX4_checks 13 = .ok (.istore_n 3, 1) := by decide +kernel
theorem dX4_checks_14 : decode cX4_checks 14 = .ok (.iload_n 2, 1) := by decide +kernel
theorem dX4_checks_15 : decode cX4_checks 15 = .ok (.ifCond .ne 27, 3) := by decide +kernel
theorem dX4_checks_18 : decode cX4_checks 18 = .ok (.aload_n 0, 1) := by decide +kernel
theorem dX4_checks_19 : decode cX4_checks 19 = .ok (.iload_n 1, 1) := by decide +kernel
theorem dX4_checks_20 : decode cX4_checks 20 = .ok (.invokevirtual 216, 3) := by decide +kernel
theorem dX4_checks_23 : decode cX4_checks 23 = .ok (.ifCond .ne 7, 3) := by decide +kernel
theorem dX4_checks_26 : decode cX4_checks 26 = .ok (.iconst 0, 1) := by decide +kernel
theorem dX4_checks_27 : decode cX4_checks 27 = .ok (.goto 14, 3) := by decide +kernel
theorem dX4_checks_30 : decode cX4_checks 30 = .ok (.iload_n 3, 1) := by decide +kernel
theorem dX4_checks_31 : decode cX4_checks 31 = .ok (.ifCond .eq 8, 3) := by decide +kernel
theorem dX4_checks_34 : decode cX4_checks 34 = .ok (.bipush (-11), 2) := by decide +kernel
theorem dX4_checks_36 : decode cX4_checks 36 = .ok (.goto 5, 3) := by decide +kernel
theorem dX4_checks_39 : decode cX4_checks 39 = .ok (.bipush (-12), 2) := by decide +kernel
theorem dX4_checks_41 : decode cX4_checks 41 = .ok (.ireturn, 1) := by decide +kernel
theorem dX4_checks_42 : decode cX4_checks 42 = .ok (.iload_n 3, 1) := by decide +kernel
theorem dX4_checks_43 : decode cX4_checks 43 = .ok (.ifCond .eq 6, 3) := by decide +kernel
theorem dX4_checks_46 : decode cX4_checks 46 = .ok (.bipush (-11), 2) := by decide +kernel
theorem dX4_checks_48 : decode cX4_checks 48 = .ok (.ireturn, 1) := by decide +kernel
theorem dX4_checks_49 : decode cX4_checks 49 = .ok (.iload_n 2, 1) := by decide +kernel
theorem dX4_checks_50 : decode cX4_checks 50 = .ok (.iconst 1, 1) := by decide +kernel
theorem dX4_checks_51 : decode cX4_checks 51 = .ok (.if_icmp .eq 21, 3) := by decide +kernel
theorem dX4_checks_54 : decode cX4_checks 54 = .ok (.aload_n 0, 1) := by decide +kernel
theorem dX4_checks_55 : decode cX4_checks 55 = .ok (.iload_n 1, 1) := by decide +kernel
theorem dX4_checks_56 : decode cX4_checks 56 = .ok (.aload_n 0, 1) := by decide +kernel
theorem dX4_checks_57 : decode cX4_checks 57 = .ok (.iload_n 1, 1) := by decide +kernel
theorem dX4_checks_58 : decode cX4_checks 58 = .ok (.invokevirtual 219, 3) := by decide +kernel
theorem dX4_checks_61 : decode cX4_checks 61 = .ok (.invokevirtual 222, 3) := by decide +kernel
theorem dX4_checks_64 : decode cX4_checks 64 = .ok (.ifCond .eq 8, 3) := by decide +kernel
theorem dX4_checks_67 : decode cX4_checks 67 = .ok (.bipush (-13), 2) := by decide +kernel
theorem dX4_checks_69 : decode cX4_checks 69 = .ok (.goto 4, 3) := by decide +kernel
theorem dX4_checks_72 : decode cX4_checks 72 = .ok (.iconst 0, 1) := by decide +kernel
theorem dX4_checks_73 : decode cX4_checks 73 = .ok (.ireturn, 1) := by decide +kernel
theorem dX4_fails_0 : decode cX4_fails 0 = .ok (.aload_n 0, 1) := by decide +kernel
theorem dX4_fails_1 : decode cX4_fails 1 = .ok (.iload_n 1, 1) := by decide +kernel
theorem dX4_fails_2 : decode cX4_fails 2 = .ok (.iconst 1, 1) := by decide +kernel
theorem dX4_fails_3 : decode cX4_fails 3 = .ok (.invokevirtual 77, 3) := by decide +kernel
theorem dX4_fails_6 : decode cX4_fails 6 = .ok (.aload_n 0, 1) := by decide +kernel
theorem dX4_fails_7 : decode cX4_fails 7 = .ok (.dup, 1) := by decide +kernel
theorem dX4_fails_8 : decode cX4_fails 8 = .ok (.getfield 90, 3) := by decide +kernel
theorem dX4_fails_11 : decode cX4_fails 11 = .ok (.iconst 1, 1) := by decide +kernel
theorem dX4_fails_12 : decode cX4_fails 12 = .ok (.iadd, 1) := by decide +kernel
theorem dX4_fails_13 : decode cX4_fails 13 = .ok (.putfield 90, 3) := by decide +kernel
theorem dX4_fails_16 : decode cX4_fails 16 = .ok (.aload_n 0, 1) := by decide +kernel
theorem dX4_fails_17 : decode cX4_fails 17 = .ok (.dup, 1) := by decide +kernel
theorem dX4_fails_18 : decode cX4_fails 18 = .ok (.getfield 93, 3) := by decide +kernel
theorem dX4_fails_21 : decode cX4_fails 21 = .ok (.iload_n 2, 1) := by decide +kernel
theorem dX4_fails_22 : decode cX4_fails 22 = .ok (.bipush (-12), 2) := by decide +kernel
theorem dX4_fails_24 : decode cX4_fails 24 = .ok (.if_icmp .ne 7, 3) := by decide +kernel
theorem dX4_fails_27 : decode cX4_fails 27 = .ok (.iconst 1, 1) := by decide +kernel
theorem dX4_fails_28 : decode cX4_fails 28 = .ok (.goto 4, 3) := by decide +kernel
theorem dX4_fails_31 : decode cX4_fails 31 = .ok (.iconst 0, 1) := by decide +kernel
theorem dX4_fails_32 : decode cX4_fails 32 = .ok (.iadd, 1) := by decide +kernel
theorem dX4_fails_33 : decode cX4_fails 33 = .ok (.putfield 93, 3) := by decide +kernel
theorem dX4_fails_36 : decode cX4_fails 36 = .ok (.aload_n 0, 1) := by decide +kernel
theorem dX4_fails_37 : decode cX4_fails 37 = .ok (.dup, 1) := by decide +kernel
theorem dX4_fails_38 : decode cX4_fails 38 = .ok (.getfield 96, 3) := by decide +kernel
theorem dX4_fails_41 : decode cX4_fails 41 = .ok (.iload_n 2, 1) := by decide +kernel
theorem dX4_fails_42 : decode cX4_fails 42 = .ok (.bipush (-13), 2) := by decide +kernel
theorem dX4_fails_44 : decode cX4_fails 44 = .ok (.if_icmp .ne 7, 3) := by decide +kernel
theorem dX4_fails_47 : decode cX4_fails 47 = .ok (.iconst 1, 1) := by decide +kernel
theorem dX4_fails_48 : decode cX4_fails 48 = .ok (.goto 4, 3) := by decide +kernel
theorem dX4_fails_51 : decode cX4_fails 51 = .ok (.iconst 0, 1) := by decide +kernel
theorem dX4_fails_52 : decode cX4_fails 52 = .ok (.iadd, 1) := by decide +kernel
theorem dX4_fails_53 : decode cX4_fails 53 = .ok (.putfield 96, 3) := by decide +kernel
theorem dX4_fails_56 : decode cX4_fails 56 = .ok (.return_, 1) := by decide +kernel
theorem dX4_commits_0 : decode cX4_commits 0 = .ok (.aload_n 0, 1) := by decide +kernel
theorem dX4_commits_1 : decode cX4_commits 1 = .ok (.iload_n 1, 1) := by decide +kernel
theorem dX4_commits_2 : decode cX4_commits 2 = .ok (.iload_n 2, 1) := by decide +kernel
theorem dX4_commits_3 : decode cX4_commits 3 = .ok (.invokevirtual 192, 3) := by decide +kernel
theorem dX4_commits_6 : decode cX4_commits 6 = .ok (.pop, 1) := by decide +kernel
theorem dX4_commits_7 : decode cX4_commits 7 = .ok (.iconst 0, 1) := by decide +kernel
theorem dX4_commits_8 : decode cX4_commits 8 = .ok (.istore_n 3, 1) := by decide +kernel
theorem dX4_commits_9 : decode cX4_commits 9 = .ok (.iload_n 3, 1) := by decide +kernel
theorem dX4_commits_10 : decode cX4_commits 10 = .ok (.bipush 8, 2) := by decide +kernel
theorem dX4_commits_12 : decode cX4_commits 12 = .ok (.if_icmp .ge 38, 3) := by decide +kernel
theorem dX4_commits_15 : decode cX4_commits 15 = .ok (.aload_n 0, 1) := by decide +kernel
theorem dX4_commits_16 : decode cX4_commits 16 = .ok (.getfield 38, 3) := by decide +kernel
theorem dX4_commits_19 : decode cX4_commits 19 = .ok (.iload_n 1, 1) := by decide +kernel
theorem dX4_commits_20 : decode cX4_commits 20 = .ok (.iaload, 1) := by decide +kernel
theorem dX4_commits_21 : decode cX4_commits 21 = .ok (.iload_n 3, 1) := by decide +kernel
theorem dX4_commits_22 : decode cX4_commits 22 = .ok (.invokestatic 183, 3) := by decide +kernel
theorem dX4_commits_25 : decode cX4_commits 25 = .ok (.ifCond .eq 19, 3) := by decide +kernel
theorem dX4_commits_28 : decode cX4_commits 28 = .ok (.aload_n 0, 1) := by decide +kernel
theorem dX4_commits_29 : decode cX4_commits 29 = .ok (.iload_n 3, 1) := by decide +kernel
theorem dX4_commits_30 : decode cX4_commits 30 = .ok (.aload_n 0, 1) := by decide +kernel
theorem dX4_commits_31 : decode cX4_commits 31 = .ok (.getfield 47, 3) := by decide +kernel
theorem dX4_commits_34 : decode cX4_commits 34 = .ok (.bipush 8, 2) := by decide +kernel
theorem dX4_commits_36 : decode cX4_commits 36 = .ok (.iload_n 1, 1) := by decide +kernel
theorem dX4_commits_37 : decode cX4_commits 37 = .ok (.imul, 1) := by decide +kernel
theorem dX4_commits_38 : decode cX4_commits 38 = .ok (.iload_n 3, 1) := by decide +kernel
theorem dX4_commits_39 : decode cX4_commits 39 = .ok (.iadd, 1) := by decide +kernel
theorem dX4_commits_40 : decode cX4_commits 40 = .ok (.iaload, 1) := by decide +kernel
theorem dX4_commits_41 : decode cX4_commits 41 = .ok (.invokevirtual 195, 3) := by decide +kernel
theorem dX4_commits_44 : decode cX4_commits 44 = .ok (.iinc 3 1, 3) := by decide +kernel
theorem dX4_commits_47 : decode cX4_commits 47 = .ok (.goto (-38), 3) := by decide +kernel
theorem dX4_commits_50 : decode cX4_commits 50 = .ok (.aload_n 0, 1) := by decide +kernel
theorem dX4_commits_51 : decode cX4_commits 51 = .ok (.iload_n 1, 1) := by decide +kernel
theorem dX4_commits_52 : decode cX4_commits 52 = .ok (.iconst 0, 1) := by decide +kernel
theorem dX4_commits_53 : decode cX4_commits 53 = .ok (.invokevirtual 77, 3) := by decide +kernel
theorem dX4_commits_56 : decode cX4_commits 56 = .ok (.aload_n 0, 1) := by decide +kernel
theorem dX4_commits_57 : decode cX4_commits 57 = .ok (.getfield 81, 3) := by decide +kernel
theorem dX4_commits_60 : decode cX4_commits 60 = .ok (.ireturn, 1) := by decide +kernel
theorem dX4_refused_0 : decode cX4_refused 0 = .ok (.iload_n 1, 1) := by decide +kernel
theorem dX4_refused_1 : decode cX4_refused 1 = .ok (.invokestatic 201, 3) := by decide +kernel
theorem dX4_refused_4 : decode cX4_refused 4 = .ok (.ifCond .ne 8, 3) := by decide +kernel
theorem dX4_refused_7 : decode cX4_refused 7 = .ok (.bipush (-2), 2) := by decide +kernel
theorem dX4_refused_9 : decode cX4_refused 9 = .ok (.goto 44, 3) := by decide +kernel
theorem dX4_refused_12 : decode cX4_refused 12 = .ok (.iload_n 2, 1) := by decide +kernel
theorem dX4_refused_13 : decode cX4_refused 13 = .ok (.i2l, 1) := by decide +kernel
theorem dX4_refused_14 : decode cX4_refused 14 = .ok (.lconst 0, 1) := by decide +kernel
theorem dX4_refused_15 : decode cX4_refused 15 = .ok (.ldc2_w 225, 3) := by decide +kernel
theorem dX4_refused_18 : decode cX4_refused 18 = .ok (.invokestatic 71, 3) := by decide +kernel
theorem dX4_refused_21 : decode cX4_refused 21 = .ok (.ifCond .ne 8, 3) := by decide +kernel
theorem dX4_refused_24 : decode cX4_refused 24 = .ok (.bipush (-3), 2) := by decide +kernel
theorem dX4_refused_26 : decode cX4_refused 26 = .ok (.goto 27, 3) := by decide +kernel
theorem dX4_refused_29 : decode cX4_refused 29 = .ok (.aload_n 0, 1) := by decide +kernel
theorem dX4_refused_30 : decode cX4_refused 30 = .ok (.getfield 19, 3) := by decide +kernel
theorem dX4_refused_33 : decode cX4_refused 33 = .ok (.iload_n 1, 1) := by decide +kernel
theorem dX4_refused_34 : decode cX4_refused 34 = .ok (.iaload, 1) := by decide +kernel
theorem dX4_refused_35 : decode cX4_refused 35 = .ok (.iconst 1, 1) := by decide +kernel
theorem dX4_refused_36 : decode cX4_refused 36 = .ok (.if_icmp .ne 11, 3) := by decide +kernel
theorem dX4_refused_39 : decode cX4_refused 39 = .ok (.aload_n 0, 1) := by decide +kernel
theorem dX4_refused_40 : decode cX4_refused 40 = .ok (.iconst 3, 1) := by decide +kernel
theorem dX4_refused_41 : decode cX4_refused 41 = .ok (.invokevirtual 189, 3) := by decide +kernel
theorem dX4_refused_44 : decode cX4_refused 44 = .ok (.ifCond .le 8, 3) := by decide +kernel
theorem dX4_refused_47 : decode cX4_refused 47 = .ok (.bipush (-4), 2) := by decide +kernel
theorem dX4_refused_49 : decode cX4_refused 49 = .ok (.goto 4, 3) := by decide +kernel
theorem dX4_refused_52 : decode cX4_refused 52 = .ok (.iconst 0, 1) := by decide +kernel
theorem dX4_refused_53 : decode cX4_refused 53 = .ok (.ireturn, 1) := by decide +kernel
theorem dX4_commit_0 : decode cX4_commit 0 = .ok (.aload_n 0, 1) := by decide +kernel
theorem dX4_commit_1 : decode cX4_commit 1 = .ok (.iload_n 1, 1) := by decide +kernel
theorem dX4_commit_2 : decode cX4_commit 2 = .ok (.iload_n 2, 1) := by decide +kernel
theorem dX4_commit_3 : decode cX4_commit 3 = .ok (.invokevirtual 227, 3) := by decide +kernel
theorem dX4_commit_6 : decode cX4_commit 6 = .ok (.istore_n 3, 1) := by decide +kernel
theorem dX4_commit_7 : decode cX4_commit 7 = .ok (.iload_n 3, 1) := by decide +kernel
theorem dX4_commit_8 : decode cX4_commit 8 = .ok (.ifCond .eq 5, 3) := by decide +kernel
theorem dX4_commit_11 : decode cX4_commit 11 = .ok (.iload_n 3, 1) := by decide +kernel
theorem dX4_commit_12 : decode cX4_commit 12 = .ok (.ireturn, 1) := by decide +kernel
theorem dX4_commit_13 : decode cX4_commit 13 = .ok (.aload_n 0, 1) := by decide +kernel
theorem dX4_commit_14 : decode cX4_commit 14 = .ok (.iload_n 1, 1) := by decide +kernel
theorem dX4_commit_15 : decode cX4_commit 15 = .ok (.iload_n 2, 1) := by decide +kernel
theorem dX4_commit_16 : decode cX4_commit 16 = .ok (.invokevirtual 230, 3) := by decide +kernel
theorem dX4_commit_19 : decode cX4_commit 19 = .ok (.istore 4, 2) := by decide +kernel
theorem dX4_commit_21 : decode cX4_commit 21 = .ok (.iload 4, 2) := by decide +kernel
theorem dX4_commit_23 : decode cX4_commit 23 = .ok (.ifCond .eq 13, 3) := by decide +kernel
theorem dX4_commit_26 : decode cX4_commit 26 = .ok (.aload_n 0, 1) := by decide +kernel
theorem dX4_commit_27 : decode cX4_commit 27 = .ok (.iload_n 1, 1) := by decide +kernel
theorem dX4_commit_28 : decode cX4_commit 28 = .ok (.iload 4, 2) := by decide +kernel
theorem dX4_commit_30 : decode cX4_commit 30 = .ok (.invokevirtual 233, 3) := by decide +kernel
theorem dX4_commit_33 : decode cX4_commit 33 = .ok (.iload 4, 2) := by decide +kernel
theorem dX4_commit_35 : decode cX4_commit 35 = .ok (.ireturn, 1) := by decide +kernel
theorem dX4_commit_36 : decode cX4_commit 36 = .ok (.iload_n 2, 1) := by decide +kernel
theorem dX4_commit_37 : decode cX4_commit 37 = .ok (.iconst 2, 1) := by decide +kernel
theorem dX4_commit_38 : decode cX4_commit 38 = .ok (.if_icmp .ne 11, 3) := by decide +kernel
theorem dX4_commit_41 : decode cX4_commit 41 = .ok (.aload_n 0, 1) := by decide +kernel
theorem dX4_commit_42 : decode cX4_commit 42 = .ok (.iload_n 1, 1) := by decide +kernel
theorem dX4_commit_43 : decode cX4_commit 43 = .ok (.invokevirtual 219, 3) := by decide +kernel
theorem dX4_commit_46 : decode cX4_commit 46 = .ok (.goto 4, 3) := by decide +kernel
theorem dX4_commit_49 : decode cX4_commit 49 = .ok (.iconst 0, 1) := by decide +kernel
theorem dX4_commit_50 : decode cX4_commit 50 = .ok (.istore 5, 2) := by decide +kernel
theorem dX4_commit_52 : decode cX4_commit 52 = .ok (.iconst 0, 1) := by decide +kernel
theorem dX4_commit_53 : decode cX4_commit 53 = .ok (.istore 6, 2) := by decide +kernel
theorem dX4_commit_55 : decode cX4_commit 55 = .ok (.iload 6, 2) := by decide +kernel
theorem dX4_commit_57 : decode cX4_commit 57 = .ok (.bipush 6, 2) := by decide +kernel
theorem dX4_commit_59 : decode cX4_commit 59 = .ok (.if_icmp .ge 37, 3) := by decide +kernel
theorem dX4_commit_62 : decode cX4_commit 62 = .ok (.aload_n 0, 1) := by decide +kernel
theorem dX4_commit_63 : decode cX4_commit 63 = .ok (.getfield 19, 3) := by decide +kernel
theorem dX4_commit_66 : decode cX4_commit 66 = .ok (.iload 6, 2) := by decide +kernel
theorem dX4_commit_68 : decode cX4_commit 68 = .ok (.iload 5, 2) := by decide +kernel
theorem dX4_commit_70 : decode cX4_commit 70 = .ok (.iload 6, 2) := by decide +kernel
theorem dX4_commit_72 : decode cX4_commit 72 = .ok (.invokestatic 183, 3) := by decide +kernel
theorem dX4_commit_75 : decode cX4_commit 75 = .ok (.ifCond .eq 7, 3) := by decide +kernel
theorem dX4_commit_78 : decode cX4_commit 78 = .ok (.iconst 2, 1) := by decide +kernel
theorem dX4_commit_79 : decode cX4_commit 79 = .ok (.goto 10, 3) := by decide +kernel
theorem dX4_commit_82 : decode cX4_commit 82 = .ok (.aload_n 0, 1) := by decide +kernel
theorem dX4_commit_83 : decode cX4_commit 83 = .ok (.getfield 19, 3) := by decide +kernel
theorem dX4_commit_86 : decode cX4_commit 86 = .ok (.iload 6, 2) := by decide +kernel
theorem dX4_commit_88 : decode cX4_commit 88 = .ok (.iaload, 1) := by decide +kernel
theorem dX4_commit_89 : decode cX4_commit 89 = .ok (.iastore, 1) := by decide +kernel
theorem dX4_commit_90 : decode cX4_commit 90 = .ok (.iinc 6 1, 3) := by decide +kernel
theorem dX4_commit_93 : decode cX4_commit 93 = .ok (.goto (-38), 3) := by decide +kernel
theorem dX4_commit_96 : decode cX4_commit 96 = .ok (.aload_n 0, 1) := by decide +kernel
theorem dX4_commit_97 : decode cX4_commit 97 = .ok (.iload_n 1, 1) := by decide +kernel
theorem dX4_commit_98 : decode cX4_commit 98 = .ok (.iload_n 2, 1) := by decide +kernel
theorem dX4_commit_99 : decode cX4_commit 99 = .ok (.invokevirtual 236, 3) := by decide +kernel
theorem dX4_commit_102 : decode cX4_commit 102 = .ok (.ireturn, 1) := by decide +kernel
theorem dX4_peek_0 : decode cX4_peek 0 = .ok (.aload_n 0, 1) := by decide +kernel
theorem dX4_peek_1 : decode cX4_peek 1 = .ok (.iload_n 1, 1) := by decide +kernel
theorem dX4_peek_2 : decode cX4_peek 2 = .ok (.iload_n 2, 1) := by decide +kernel
theorem dX4_peek_3 : decode cX4_peek 3 = .ok (.invokevirtual 227, 3) := by decide +kernel
theorem dX4_peek_6 : decode cX4_peek 6 = .ok (.istore_n 3, 1) := by decide +kernel
theorem dX4_peek_7 : decode cX4_peek 7 = .ok (.iload_n 3, 1) := by decide +kernel
theorem dX4_peek_8 : decode cX4_peek 8 = .ok (.ifCond .eq 5, 3) := by decide +kernel
theorem dX4_peek_11 : decode cX4_peek 11 = .ok (.iload_n 3, 1) := by decide +kernel
theorem dX4_peek_12 : decode cX4_peek 12 = .ok (.ireturn, 1) := by decide +kernel
theorem dX4_peek_13 : decode cX4_peek 13 = .ok (.aload_n 0, 1) := by decide +kernel
theorem dX4_peek_14 : decode cX4_peek 14 = .ok (.iload_n 1, 1) := by decide +kernel
theorem dX4_peek_15 : decode cX4_peek 15 = .ok (.iload_n 2, 1) := by decide +kernel
theorem dX4_peek_16 : decode cX4_peek 16 = .ok (.invokevirtual 230, 3) := by decide +kernel
theorem dX4_peek_19 : decode cX4_peek 19 = .ok (.istore 4, 2) := by decide +kernel
theorem dX4_peek_21 : decode cX4_peek 21 = .ok (.iload 4, 2) := by decide +kernel
theorem dX4_peek_23 : decode cX4_peek 23 = .ok (.ifCond .eq 8, 3) := by decide +kernel
theorem dX4_peek_26 : decode cX4_peek 26 = .ok (.iload 4, 2) := by decide +kernel
theorem dX4_peek_28 : decode cX4_peek 28 = .ok (.goto 9, 3) := by decide +kernel
theorem dX4_peek_31 : decode cX4_peek 31 = .ok (.aload_n 0, 1) := by decide +kernel
theorem dX4_peek_32 : decode cX4_peek 32 = .ok (.getfield 81, 3) := by decide +kernel
theorem dX4_peek_35 : decode cX4_peek 35 = .ok (.iconst 1, 1) := by decide +kernel
theorem dX4_peek_36 : decode cX4_peek 36 = .ok (.iadd, 1) := by decide +kernel
theorem dX4_peek_37 : decode cX4_peek 37 = .ok (.ireturn, 1) := by decide +kernel
theorem dX4_abort_0 : decode cX4_abort 0 = .ok (.iload_n 1, 1) := by decide +kernel
theorem dX4_abort_1 : decode cX4_abort 1 = .ok (.invokestatic 201, 3) := by decide +kernel
theorem dX4_abort_4 : decode cX4_abort 4 = .ok (.ifCond .ne 6, 3) := by decide +kernel
theorem dX4_abort_7 : decode cX4_abort 7 = .ok (.bipush (-2), 2) := by decide +kernel
theorem dX4_abort_9 : decode cX4_abort 9 = .ok (.ireturn, 1) := by decide +kernel
theorem dX4_abort_10 : decode cX4_abort 10 = .ok (.aload_n 0, 1) := by decide +kernel
theorem dX4_abort_11 : decode cX4_abort 11 = .ok (.getfield 19, 3) := by decide +kernel
theorem dX4_abort_14 : decode cX4_abort 14 = .ok (.iload_n 1, 1) := by decide +kernel
theorem dX4_abort_15 : decode cX4_abort 15 = .ok (.iaload, 1) := by decide +kernel
theorem dX4_abort_16 : decode cX4_abort 16 = .ok (.iconst 1, 1) := by decide +kernel
theorem dX4_abort_17 : decode cX4_abort 17 = .ok (.if_icmp .eq 16, 3) := by decide +kernel
theorem dX4_abort_20 : decode cX4_abort 20 = .ok (.aload_n 0, 1) := by decide +kernel
theorem dX4_abort_21 : decode cX4_abort 21 = .ok (.getfield 19, 3) := by decide +kernel
theorem dX4_abort_24 : decode cX4_abort 24 = .ok (.iload_n 1, 1) := by decide +kernel
theorem dX4_abort_25 : decode cX4_abort 25 = .ok (.iaload, 1) := by decide +kernel
theorem dX4_abort_26 : decode cX4_abort 26 = .ok (.iconst 2, 1) := by decide +kernel
theorem dX4_abort_27 : decode cX4_abort 27 = .ok (.if_icmp .eq 6, 3) := by decide +kernel
theorem dX4_abort_30 : decode cX4_abort 30 = .ok (.bipush (-4), 2) := by decide +kernel
theorem dX4_abort_32 : decode cX4_abort 32 = .ok (.ireturn, 1) := by decide +kernel
theorem dX4_abort_33 : decode cX4_abort 33 = .ok (.aload_n 0, 1) := by decide +kernel
theorem dX4_abort_34 : decode cX4_abort 34 = .ok (.iload_n 1, 1) := by decide +kernel
theorem dX4_abort_35 : decode cX4_abort 35 = .ok (.iconst 0, 1) := by decide +kernel
theorem dX4_abort_36 : decode cX4_abort 36 = .ok (.invokevirtual 233, 3) := by decide +kernel
theorem dX4_abort_39 : decode cX4_abort 39 = .ok (.aload_n 0, 1) := by decide +kernel
theorem dX4_abort_40 : decode cX4_abort 40 = .ok (.iconst 1, 1) := by decide +kernel
theorem dX4_abort_41 : decode cX4_abort 41 = .ok (.invokevirtual 189, 3) := by decide +kernel
theorem dX4_abort_44 : decode cX4_abort 44 = .ok (.ireturn, 1) := by decide +kernel
theorem dX4_sweep_0 : decode cX4_sweep 0 = .ok (.iconst 0, 1) := by decide +kernel
theorem dX4_sweep_1 : decode cX4_sweep 1 = .ok (.istore_n 1, 1) := by decide +kernel
theorem dX4_sweep_2 : decode cX4_sweep 2 = .ok (.iconst 0, 1) := by decide +kernel
theorem dX4_sweep_3 : decode cX4_sweep 3 = .ok (.istore_n 2, 1) := by decide +kernel
theorem dX4_sweep_4 : decode cX4_sweep 4 = .ok (.iload_n 2, 1) := by decide +kernel
theorem dX4_sweep_5 : decode cX4_sweep 5 = .ok (.bipush 6, 2) := by decide +kernel
theorem dX4_sweep_7 : decode cX4_sweep 7 = .ok (.if_icmp .ge 36, 3) := by decide +kernel
theorem dX4_sweep_10 : decode cX4_sweep 10 = .ok (.aload_n 0, 1) := by decide +kernel
theorem dX4_sweep_11 : decode cX4_sweep 11 = .ok (.getfield 19, 3) := by decide +kernel
theorem dX4_sweep_14 : decode cX4_sweep 14 = .ok (.iload_n 2, 1) := by decide +kernel
theorem dX4_sweep_15 : decode cX4_sweep 15 = .ok (.iaload, 1) := by decide +kernel
theorem dX4_sweep_16 : decode cX4_sweep 16 = .ok (.iconst 1, 1) := by decide +kernel
theorem dX4_sweep_17 : decode cX4_sweep 17 = .ok (.if_icmp .ne 20, 3) := by decide +kernel
theorem dX4_sweep_20 : decode cX4_sweep 20 = .ok (.aload_n 0, 1) := by decide +kernel
theorem dX4_sweep_21 : decode cX4_sweep 21 = .ok (.iload_n 2, 1) := by decide +kernel
theorem dX4_sweep_22 : decode cX4_sweep 22 = .ok (.invokevirtual 213, 3) := by decide +kernel
theorem dX4_sweep_25 : decode cX4_sweep 25 = .ok (.ifCond .eq 12, 3) := by decide +kernel
theorem dX4_sweep_28 : decode cX4_sweep 28 = .ok (.aload_n 0, 1) := by decide +kernel
theorem dX4_sweep_29 : decode cX4_sweep 29 = .ok (.iload_n 2, 1) := by decide +kernel
theorem dX4_sweep_30 : decode cX4_sweep 30 = .ok (.iconst 0, 1) := by decide +kernel
theorem dX4_sweep_31 : decode cX4_sweep 31 = .ok (.invokevirtual 233, 3) := by decide +kernel
theorem dX4_sweep_34 : decode cX4_sweep 34 = .ok (.iinc 1 1, 3) := by decide +kernel
theorem dX4_sweep_37 : decode cX4_sweep 37 = .ok (.iinc 2 1, 3) := by decide +kernel
theorem dX4_sweep_40 : decode cX4_sweep 40 = .ok (.goto (-36), 3) := by decide +kernel
theorem dX4_sweep_43 : decode cX4_sweep 43 = .ok (.iload_n 1, 1) := by decide +kernel
theorem dX4_sweep_44 : decode cX4_sweep 44 = .ok (.ireturn, 1) := by decide +kernel
theorem dX4_send_0 : decode cX4_send 0 = .ok (.iload_n 1, 1) := by decide +kernel
theorem dX4_send_1 : decode cX4_send 1 = .ok (.invokestatic 201, 3) := by decide +kernel
theorem dX4_send_4 : decode cX4_send 4 = .ok (.ifCond .ne 6, 3) := by decide +kernel
theorem dX4_send_7 : decode cX4_send 7 = .ok (.bipush (-2), 2) := by decide +kernel
theorem dX4_send_9 : decode cX4_send 9 = .ok (.ireturn, 1) := by decide +kernel
theorem dX4_send_10 : decode cX4_send 10 = .ok (.aload_n 0, 1) := by decide +kernel
theorem dX4_send_11 : decode cX4_send 11 = .ok (.getfield 19, 3) := by decide +kernel
theorem dX4_send_14 : decode cX4_send 14 = .ok (.iload_n 1, 1) := by decide +kernel
theorem dX4_send_15 : decode cX4_send 15 = .ok (.iaload, 1) := by decide +kernel
theorem dX4_send_16 : decode cX4_send 16 = .ok (.iconst 1, 1) := by decide +kernel
theorem dX4_send_17 : decode cX4_send 17 = .ok (.if_icmp .eq 6, 3) := by decide +kernel
theorem dX4_send_20 : decode cX4_send 20 = .ok (.bipush (-4), 2) := by decide +kernel
theorem dX4_send_22 : decode cX4_send 22 = .ok (.ireturn, 1) := by decide +kernel
theorem dX4_send_23 : decode cX4_send 23 = .ok (.aload_n 0, 1) := by decide +kernel
theorem dX4_send_24 : decode cX4_send 24 = .ok (.getfield 19, 3) := by decide +kernel
theorem dX4_send_27 : decode cX4_send 27 = .ok (.iload_n 1, 1) := by decide +kernel
theorem dX4_send_28 : decode cX4_send 28 = .ok (.iconst 3, 1) := by decide +kernel
theorem dX4_send_29 : decode cX4_send 29 = .ok (.iastore, 1) := by decide +kernel
theorem dX4_send_30 : decode cX4_send 30 = .ok (.aload_n 0, 1) := by decide +kernel
theorem dX4_send_31 : decode cX4_send 31 = .ok (.dup, 1) := by decide +kernel
theorem dX4_send_32 : decode cX4_send 32 = .ok (.getfield 84, 3) := by decide +kernel
theorem dX4_send_35 : decode cX4_send 35 = .ok (.iconst 1, 1) := by decide +kernel
theorem dX4_send_36 : decode cX4_send 36 = .ok (.iadd, 1) := by decide +kernel
theorem dX4_send_37 : decode cX4_send 37 = .ok (.putfield 84, 3) := by decide +kernel
theorem dX4_send_40 : decode cX4_send 40 = .ok (.aload_n 0, 1) := by decide +kernel
theorem dX4_send_41 : decode cX4_send 41 = .ok (.getfield 50, 3) := by decide +kernel
theorem dX4_send_44 : decode cX4_send 44 = .ok (.iload_n 1, 1) := by decide +kernel
theorem dX4_send_45 : decode cX4_send 45 = .ok (.aload_n 0, 1) := by decide +kernel
theorem dX4_send_46 : decode cX4_send 46 = .ok (.getfield 84, 3) := by decide +kernel
theorem dX4_send_49 : decode cX4_send 49 = .ok (.iastore, 1) := by decide +kernel
theorem dX4_send_50 : decode cX4_send 50 = .ok (.aload_n 0, 1) := by decide +kernel
theorem dX4_send_51 : decode cX4_send 51 = .ok (.getfield 53, 3) := by decide +kernel
theorem dX4_send_54 : decode cX4_send 54 = .ok (.iload_n 1, 1) := by decide +kernel
theorem dX4_send_55 : decode cX4_send 55 = .ok (.iconst 0, 1) := by decide +kernel
theorem dX4_send_56 : decode cX4_send 56 = .ok (.iastore, 1) := by decide +kernel
theorem dX4_send_57 : decode cX4_send 57 = .ok (.aload_n 0, 1) := by decide +kernel
theorem dX4_send_58 : decode cX4_send 58 = .ok (.getfield 53, 3) := by decide +kernel
theorem dX4_send_61 : decode cX4_send 61 = .ok (.bipush 6, 2) := by decide +kernel
theorem dX4_send_63 : decode cX4_send 63 = .ok (.iload_n 1, 1) := by decide +kernel
theorem dX4_send_64 : decode cX4_send 64 = .ok (.iadd, 1) := by decide +kernel
theorem dX4_send_65 : decode cX4_send 65 = .ok (.iconst 0, 1) := by decide +kernel
theorem dX4_send_66 : decode cX4_send 66 = .ok (.iastore, 1) := by decide +kernel
theorem dX4_send_67 : decode cX4_send 67 = .ok (.aload_n 0, 1) := by decide +kernel
theorem dX4_send_68 : decode cX4_send 68 = .ok (.getfield 84, 3) := by decide +kernel
theorem dX4_send_71 : decode cX4_send 71 = .ok (.ireturn, 1) := by decide +kernel
theorem dX4_firstSent_0 : decode cX4_firstSent 0 = .ok (.iconst (-1), 1) := by decide +kernel
theorem dX4_firstSent_1 : decode cX4_firstSent 1 = .ok (.istore_n 2, 1) := by decide +kernel
theorem dX4_firstSent_2 : decode cX4_firstSent 2 = .ok (.iconst 0, 1) := by decide +kernel
theorem dX4_firstSent_3 : decode cX4_firstSent 3 = .ok (.istore_n 3, 1) := by decide +kernel
theorem dX4_firstSent_4 : decode cX4_firstSent 4 = .ok (.iload_n 3, 1) := by decide +kernel
theorem dX4_firstSent_5 : decode cX4_firstSent 5 = .ok (.bipush 6, 2) := by decide +kernel
theorem dX4_firstSent_7 : decode cX4_firstSent 7 = .ok (.if_icmp .ge 76, 3) := by decide +kernel
theorem dX4_firstSent_10 : decode cX4_firstSent 10 = .ok (.aload_n 0, 1) := by decide +kernel
theorem dX4_firstSent_11 : decode cX4_firstSent 11 = .ok (.getfield 19, 3) := by decide +kernel
theorem dX4_firstSent_14 : decode cX4_firstSent 14 = .ok (.iload_n 3, 1) := by decide +kernel
theorem dX4_firstSent_15 : decode cX4_firstSent 15 = .ok (.iaload, 1) := by decide +kernel
theorem dX4_firstSent_16 : decode cX4_firstSent 16 = .ok (.iconst 3, 1) := by decide +kernel
theorem dX4_firstSent_17 : decode cX4_firstSent 17 = .ok (.if_icmp .ne 26, 3) := by decide +kernel
theorem dX4_firstSent_20 : decode cX4_firstSent 20 = .ok (.iload_n 1, 1) := by decide +kernel
theorem dX4_firstSent_21 : decode cX4_firstSent 21 = .ok (.iconst (-1), 1) := by decide +kernel
theorem dX4_firstSent_22 : decode cX4_firstSent 22 = .ok (.if_icmp .eq 17, 3) := by decide +kernel
theorem dX4_firstSent_25 : decode cX4_firstSent 25 = .ok (.aload_n 0, 1) := by decide +kernel
theorem dX4_firstSent_26 : decode cX4_firstSent 26 = .ok (.getfield 53, 3) := by decide +kernel
theorem dX4_firstSent_29 : decode cX4_firstSent 29 = .ok (.bipush 6, 2) := by decide +kernel
theorem dX4_firstSent_31 : decode cX4_firstSent 31 = .ok (.iload_n 1, 1) := by decide +kernel
theorem dX4_firstSent_32 : decode cX4_firstSent 32 = .ok (.imul, 1) := by decide +kernel
theorem dX4_firstSent_33 : decode cX4_firstSent 33 = .ok (.iload_n 3, 1) := by decide +kernel
theorem dX4_firstSent_34 : decode cX4_firstSent 34 = .ok (.iadd, 1) := by decide +kernel
theorem dX4_firstSent_35 : decode cX4_firstSent 35 = .ok (.iaload, 1) := by decide +kernel
theorem dX4_firstSent_36 : decode cX4_firstSent 36 = .ok (.ifCond .ne 7, 3) := by decide +kernel
theorem dX4_firstSent_39 : decode cX4_firstSent 39 = .ok (.iconst 1, 1) := by decide +kernel
theorem dX4_firstSent_40 : decode cX4_firstSent 40 = .ok (.goto 4, 3) := by decide +kernel
theorem dX4_firstSent_43 : decode cX4_firstSent 43 = .ok (.iconst 0, 1) := by decide +kernel
theorem dX4_firstSent_44 : decode cX4_firstSent 44 = .ok (.istore 4, 2) := by decide +kernel
theorem dX4_firstSent_46 : decode cX4_firstSent 46 = .ok (.iload 4, 2) := by decide +kernel
theorem dX4_firstSent_48 : decode cX4_firstSent 48 = .ok (.ifCond .eq 27, 3) := by decide +kernel
theorem dX4_firstSent_51 : decode cX4_firstSent 51 = .ok (.iload_n 2, 1) := by decide +kernel
theorem dX4_firstSent_52 : decode cX4_firstSent 52 = .ok (.iconst (-1), 1) := by decide +kernel
theorem dX4_firstSent_53 : decode cX4_firstSent 53 = .ok (.if_icmp .eq 18, 3) := by decide +kernel
theorem dX4_firstSent_56 : decode cX4_firstSent 56 = .ok (.aload_n 0, 1) := by decide +kernel
theorem dX4_firstSent_57 : decode cX4_firstSent 57 = .ok (.getfield 50, 3) := by decide +kernel
theorem dX4_firstSent_60 : decode cX4_firstSent 60 = .ok (.iload_n 3, 1) := by decide +kernel
theorem dX4_firstSent_61 : decode cX4_firstSent 61 = .ok (.iaload, 1) := by decide +kernel
theorem dX4_firstSent_62 : decode cX4_firstSent 62 = .ok (.aload_n 0, 1) := by decide +kernel
theorem dX4_firstSent_63 : decode cX4_firstSent 63 = .ok (.getfield 50, 3) := by decide +kernel
theorem dX4_firstSent_66 : decode cX4_firstSent 66 = .ok (.iload_n 2, 1) := by decide +kernel
theorem dX4_firstSent_67 : decode cX4_firstSent 67 = .ok (.iaload, 1) := by decide +kernel
theorem dX4_firstSent_68 : decode cX4_firstSent 68 = .ok (.if_icmp .ge 7, 3) := by decide +kernel
theorem dX4_firstSent_71 : decode cX4_firstSent 71 = .ok (.iload_n 3, 1) := by decide +kernel
theorem dX4_firstSent_72 : decode cX4_firstSent 72 = .ok (.goto 4, 3) := by decide +kernel
theorem dX4_firstSent_75 : decode cX4_firstSent 75 = .ok (.iload_n 2, 1) := by decide +kernel
theorem dX4_firstSent_76 : decode cX4_firstSent 76 = .ok (.istore_n 2, 1) := by decide +kernel
theorem dX4_firstSent_77 : decode cX4_firstSent 77 = .ok (.iinc 3 1, 3) := by decide +kernel
theorem dX4_firstSent_80 : decode cX4_firstSent 80 = .ok (.goto (-76), 3) := by decide +kernel
theorem dX4_firstSent_83 : decode cX4_firstSent 83 = .ok (.iload_n 2, 1) := by decide +kernel
theorem dX4_firstSent_84 : decode cX4_firstSent 84 = .ok (.ireturn, 1) := by decide +kernel
theorem dX4_vote_0 : decode cX4_vote 0 = .ok (.iload_n 1, 1) := by decide +kernel
theorem dX4_vote_1 : decode cX4_vote 1 = .ok (.i2l, 1) := by decide +kernel
theorem dX4_vote_2 : decode cX4_vote 2 = .ok (.lconst 0, 1) := by decide +kernel
theorem dX4_vote_3 : decode cX4_vote 3 = .ok (.lconst 1, 1) := by decide +kernel
theorem dX4_vote_4 : decode cX4_vote 4 = .ok (.invokestatic 71, 3) := by decide +kernel
theorem dX4_vote_7 : decode cX4_vote 7 = .ok (.ifCond .ne 6, 3) := by decide +kernel
theorem dX4_vote_10 : decode cX4_vote 10 = .ok (.bipush (-2), 2) := by decide +kernel
theorem dX4_vote_12 : decode cX4_vote 12 = .ok (.ireturn, 1) := by decide +kernel
theorem dX4_vote_13 : decode cX4_vote 13 = .ok (.aload_n 0, 1) := by decide +kernel
theorem dX4_vote_14 : decode cX4_vote 14 = .ok (.iload_n 1, 1) := by decide +kernel
theorem dX4_vote_15 : decode cX4_vote 15 = .ok (.invokevirtual 238, 3) := by decide +kernel
theorem dX4_vote_18 : decode cX4_vote 18 = .ok (.istore_n 2, 1) := by decide +kernel
theorem dX4_vote_19 : decode cX4_vote 19 = .ok (.iload_n 2, 1) := by decide +kernel
theorem dX4_vote_20 : decode cX4_vote 20 = .ok (.iconst (-1), 1) := by decide +kernel
theorem dX4_vote_21 : decode cX4_vote 21 = .ok (.if_icmp .ne 6, 3) := by decide +kernel
theorem dX4_vote_24 : decode cX4_vote 24 = .ok (.bipush (-4), 2) := by decide +kernel
theorem dX4_vote_26 : decode cX4_vote 26 = .ok (.ireturn, 1) := by decide +kernel
theorem dX4_vote_27 : decode cX4_vote 27 = .ok (.iconst 0, 1) := by decide +kernel
theorem dX4_vote_28 : decode cX4_vote 28 = .ok (.istore_n 3, 1) := by decide +kernel
theorem dX4_vote_29 : decode cX4_vote 29 = .ok (.iconst 0, 1) := by decide +kernel
theorem dX4_vote_30 : decode cX4_vote 30 = .ok (.istore 4, 2) := by decide +kernel
theorem dX4_vote_32 : decode cX4_vote 32 = .ok (.iload 4, 2) := by decide +kernel
theorem dX4_vote_34 : decode cX4_vote 34 = .ok (.bipush 6, 2) := by decide +kernel
theorem dX4_vote_36 : decode cX4_vote 36 = .ok (.if_icmp .ge 66, 3) := by decide +kernel
theorem dX4_vote_39 : decode cX4_vote 39 = .ok (.iload_n 3, 1) := by decide +kernel
theorem dX4_vote_40 : decode cX4_vote 40 = .ok (.aload_n 0, 1) := by decide +kernel
theorem dX4_vote_41 : decode cX4_vote 41 = .ok (.getfield 19, 3) := by decide +kernel
theorem dX4_vote_44 : decode cX4_vote 44 = .ok (.iload 4, 2) := by decide +kernel
theorem dX4_vote_46 : decode cX4_vote 46 = .ok (.iaload, 1) := by decide +kernel
theorem dX4_vote_47 : decode cX4_vote 47 = .ok (.iconst 3, 1) := by decide +kernel
theorem dX4_vote_48 : decode cX4_vote 48 = .ok (.if_icmp .ne 45, 3) := by decide +kernel
theorem dX4_vote_51 : decode cX4_vote 51 = .ok (.aload_n 0, 1) := by decide +kernel
theorem dX4_vote_52 : decode cX4_vote 52 = .ok (.getfield 50, 3) := by decide +kernel
theorem dX4_vote_55 : decode cX4_vote 55 = .ok (.iload 4, 2) := by decide +kernel
theorem dX4_vote_57 : decode cX4_vote 57 = .ok (.iaload, 1) := by decide +kernel
theorem dX4_vote_58 : decode cX4_vote 58 = .ok (.aload_n 0, 1) := by decide +kernel
theorem dX4_vote_59 : decode cX4_vote 59 = .ok (.getfield 50, 3) := by decide +kernel
theorem dX4_vote_62 : decode cX4_vote 62 = .ok (.iload_n 2, 1) := by decide +kernel
theorem dX4_vote_63 : decode cX4_vote 63 = .ok (.iaload, 1) := by decide +kernel
theorem dX4_vote_64 : decode cX4_vote 64 = .ok (.if_icmp .ge 29, 3) := by decide +kernel
theorem dX4_vote_67 : decode cX4_vote 67 = .ok (.aload_n 0, 1) := by decide +kernel
theorem dX4_vote_68 : decode cX4_vote 68 = .ok (.getfield 53, 3) := by decide +kernel
theorem dX4_vote_71 : decode cX4_vote 71 = .ok (.bipush 6, 2) := by decide +kernel
theorem dX4_vote_73 : decode cX4_vote 73 = .ok (.iload_n 1, 1) := by decide +kernel
theorem dX4_vote_74 : decode cX4_vote 74 = .ok (.imul, 1) := by decide +kernel
theorem dX4_vote_75 : decode cX4_vote 75 = .ok (.iload 4, 2) := by decide +kernel
theorem dX4_vote_77 : decode cX4_vote 77 = .ok (.iadd, 1) := by decide +kernel
theorem dX4_vote_78 : decode cX4_vote 78 = .ok (.iaload, 1) := by decide +kernel
theorem dX4_vote_79 : decode cX4_vote 79 = .ok (.iconst 2, 1) := by decide +kernel
theorem dX4_vote_80 : decode cX4_vote 80 = .ok (.if_icmp .ne 13, 3) := by decide +kernel
theorem dX4_vote_83 : decode cX4_vote 83 = .ok (.aload_n 0, 1) := by decide +kernel
theorem dX4_vote_84 : decode cX4_vote 84 = .ok (.getfield 38, 3) := by decide +kernel
theorem dX4_vote_87 : decode cX4_vote 87 = .ok (.iload 4, 2) := by decide +kernel
theorem dX4_vote_89 : decode cX4_vote 89 = .ok (.iaload, 1) := by decide +kernel
theorem dX4_vote_90 : decode cX4_vote 90 = .ok (.goto 4, 3) := by decide +kernel
theorem dX4_vote_93 : decode cX4_vote 93 = .ok (.iconst 0, 1) := by decide +kernel
theorem dX4_vote_94 : decode cX4_vote 94 = .ok (.ior, 1) := by decide +kernel
theorem dX4_vote_95 : decode cX4_vote 95 = .ok (.istore_n 3, 1) := by decide +kernel
theorem dX4_vote_96 : decode cX4_vote 96 = .ok (.iinc 4 1, 3) := by decide +kernel
theorem dX4_vote_99 : decode cX4_vote 99 = .ok (.goto (-67), 3) := by decide +kernel
theorem dX4_vote_102 : decode cX4_vote 102 = .ok (.bipush 15, 2) := by decide +kernel
theorem dX4_vote_104 : decode cX4_vote 104 = .ok (.iconst 4, 1) := by decide +kernel
theorem dX4_vote_105 : decode cX4_vote 105 = .ok (.iload_n 1, 1) := by decide +kernel
theorem dX4_vote_106 : decode cX4_vote 106 = .ok (.imul, 1) := by decide +kernel
theorem dX4_vote_107 : decode cX4_vote 107 = .ok (.ishl, 1) := by decide +kernel
theorem dX4_vote_108 : decode cX4_vote 108 = .ok (.istore 4, 2) := by decide +kernel
theorem dX4_vote_110 : decode cX4_vote 110 = .ok (.iload 4, 2) := by decide +kernel
theorem dX4_vote_112 : decode cX4_vote 112 = .ok (.aload_n 0, 1) := by decide +kernel
theorem dX4_vote_113 : decode cX4_vote 113 = .ok (.iload_n 2, 1) := by decide +kernel
theorem dX4_vote_114 : decode cX4_vote 114 = .ok (.invokevirtual 213, 3) := by decide +kernel
theorem dX4_vote_117 : decode cX4_vote 117 = .ok (.aload_n 0, 1) := by decide +kernel
theorem dX4_vote_118 : decode cX4_vote 118 = .ok (.getfield 35, 3) := by decide +kernel
theorem dX4_vote_121 : decode cX4_vote 121 = .ok (.iload_n 2, 1) := by decide +kernel
theorem dX4_vote_122 : decode cX4_vote 122 = .ok (.iaload, 1) := by decide +kernel
theorem dX4_vote_123 : decode cX4_vote 123 = .ok (.iload_n 3, 1) := by decide +kernel
theorem dX4_vote_124 : decode cX4_vote 124 = .ok (.iand, 1) := by decide +kernel
theorem dX4_vote_125 : decode cX4_vote 125 = .ok (.ior, 1) := by decide +kernel
theorem dX4_vote_126 : decode cX4_vote 126 = .ok (.iand, 1) := by decide +kernel
theorem dX4_vote_127 : decode cX4_vote 127 = .ok (.ifCond .ne 7, 3) := by decide +kernel
theorem dX4_vote_130 : decode cX4_vote 130 = .ok (.iconst 1, 1) := by decide +kernel
theorem dX4_vote_131 : decode cX4_vote 131 = .ok (.goto 4, 3) := by decide +kernel
theorem dX4_vote_134 : decode cX4_vote 134 = .ok (.iconst 0, 1) := by decide +kernel
theorem dX4_vote_135 : decode cX4_vote 135 = .ok (.istore 5, 2) := by decide +kernel
theorem dX4_vote_137 : decode cX4_vote 137 = .ok (.aload_n 0, 1) := by decide +kernel
theorem dX4_vote_138 : decode cX4_vote 138 = .ok (.getfield 53, 3) := by decide +kernel
theorem dX4_vote_141 : decode cX4_vote 141 = .ok (.bipush 6, 2) := by decide +kernel
theorem dX4_vote_143 : decode cX4_vote 143 = .ok (.iload_n 1, 1) := by decide +kernel
theorem dX4_vote_144 : decode cX4_vote 144 = .ok (.imul, 1) := by decide +kernel
theorem dX4_vote_145 : decode cX4_vote 145 = .ok (.iload_n 2, 1) := by decide +kernel
theorem dX4_vote_146 : decode cX4_vote 146 = .ok (.iadd, 1) := by decide +kernel
theorem dX4_vote_147 : decode cX4_vote 147 = .ok (.iload 5, 2) := by decide +kernel
theorem dX4_vote_149 : decode cX4_vote 149 = .ok (.ifCond .eq 7, 3) := by decide +kernel
theorem dX4_vote_152 : decode cX4_vote 152 = .ok (.iconst 2, 1) := by decide +kernel
theorem dX4_vote_153 : decode cX4_vote 153 = .ok (.goto 4, 3) := by decide +kernel
theorem dX4_vote_156 : decode cX4_vote 156 = .ok (.iconst 1, 1) := by decide +kernel
theorem dX4_vote_157 : decode cX4_vote 157 = .ok (.iastore, 1) := by decide +kernel
theorem dX4_vote_158 : decode cX4_vote 158 = .ok (.iload 5, 2) := by decide +kernel
theorem dX4_vote_160 : decode cX4_vote 160 = .ok (.ifCond .eq 7, 3) := by decide +kernel
theorem dX4_vote_163 : decode cX4_vote 163 = .ok (.iconst 1, 1) := by decide +kernel
theorem dX4_vote_164 : decode cX4_vote 164 = .ok (.goto 4, 3) := by decide +kernel
theorem dX4_vote_167 : decode cX4_vote 167 = .ok (.iconst 0, 1) := by decide +kernel
theorem dX4_vote_168 : decode cX4_vote 168 = .ok (.ireturn, 1) := by decide +kernel
theorem dX4_settle_0 : decode cX4_settle 0 = .ok (.aload_n 0, 1) := by decide +kernel
theorem dX4_settle_1 : decode cX4_settle 1 = .ok (.iconst (-1), 1) := by decide +kernel
theorem dX4_settle_2 : decode cX4_settle 2 = .ok (.invokevirtual 238, 3) := by decide +kernel
theorem dX4_settle_5 : decode cX4_settle 5 = .ok (.istore_n 1, 1) := by decide +kernel
theorem dX4_settle_6 : decode cX4_settle 6 = .ok (.iload_n 1, 1) := by decide +kernel
theorem dX4_settle_7 : decode cX4_settle 7 = .ok (.iconst (-1), 1) := by decide +kernel
theorem dX4_settle_8 : decode cX4_settle 8 = .ok (.if_icmp .eq 24, 3) := by decide +kernel
theorem dX4_settle_11 : decode cX4_settle 11 = .ok (.aload_n 0, 1) := by decide +kernel
theorem dX4_settle_12 : decode cX4_settle 12 = .ok (.getfield 53, 3) := by decide +kernel
theorem dX4_settle_15 : decode cX4_settle 15 = .ok (.iload_n 1, 1) := by decide +kernel
theorem dX4_settle_16 : decode cX4_settle 16 = .ok (.iaload, 1) := by decide +kernel
theorem dX4_settle_17 : decode cX4_settle 17 = .ok (.ifCond .eq 15, 3) := by decide +kernel
theorem dX4_settle_20 : decode cX4_settle 20 = .ok (.aload_n 0, 1) := by decide +kernel
theorem dX4_settle_21 : decode cX4_settle 21 = .ok (.getfield 53, 3) := by decide +kernel
theorem dX4_settle_24 : decode cX4_settle 24 = .ok (.bipush 6, 2) := by decide +kernel
theorem dX4_settle_26 : decode cX4_settle 26 = .ok (.iload_n 1, 1) := by decide +kernel
theorem dX4_settle_27 : decode cX4_settle 27 = .ok (.iadd, 1) := by decide +kernel
theorem dX4_settle_28 : decode cX4_settle 28 = .ok (.iaload, 1) := by decide +kernel
theorem dX4_settle_29 : decode cX4_settle 29 = .ok (.ifCond .ne 6, 3) := by decide +kernel
theorem dX4_settle_32 : decode cX4_settle 32 = .ok (.bipush (-4), 2) := by decide +kernel
theorem dX4_settle_34 : decode cX4_settle 34 = .ok (.ireturn, 1) := by decide +kernel
theorem dX4_settle_35 : decode cX4_settle 35 = .ok (.aload_n 0, 1) := by decide +kernel
theorem dX4_settle_36 : decode cX4_settle 36 = .ok (.getfield 53, 3) := by decide +kernel
theorem dX4_settle_39 : decode cX4_settle 39 = .ok (.iload_n 1, 1) := by decide +kernel
theorem dX4_settle_40 : decode cX4_settle 40 = .ok (.iaload, 1) := by decide +kernel
theorem dX4_settle_41 : decode cX4_settle 41 = .ok (.iconst 2, 1) := by decide +kernel
theorem dX4_settle_42 : decode cX4_settle 42 = .ok (.if_icmp .ne 23, 3) := by decide +kernel
theorem dX4_settle_45 : decode cX4_settle 45 = .ok (.aload_n 0, 1) := by decide +kernel
theorem dX4_settle_46 : decode cX4_settle 46 = .ok (.getfield 53, 3) := by decide +kernel
theorem dX4_settle_49 : decode cX4_settle 49 = .ok (.bipush 6, 2) := by decide +kernel
theorem dX4_settle_51 : decode cX4_settle 51 = .ok (.iload_n 1, 1) := by decide +kernel
theorem dX4_settle_52 : decode cX4_settle 52 = .ok (.iadd, 1) := by decide +kernel
theorem dX4_settle_53 : decode cX4_settle 53 = .ok (.iaload, 1) := by decide +kernel
theorem dX4_settle_54 : decode cX4_settle 54 = .ok (.iconst 2, 1) := by decide +kernel
theorem dX4_settle_55 : decode cX4_settle 55 = .ok (.if_icmp .ne 10, 3) := by decide +kernel
theorem dX4_settle_58 : decode cX4_settle 58 = .ok (.aload_n 0, 1) := by decide +kernel
theorem dX4_settle_59 : decode cX4_settle 59 = .ok (.iload_n 1, 1) := by decide +kernel
theorem dX4_settle_60 : decode cX4_settle 60 = .ok (.iconst 3, 1) := by decide +kernel
theorem dX4_settle_61 : decode cX4_settle 61 = .ok (.invokevirtual 236, 3) := by decide +kernel
theorem dX4_settle_64 : decode cX4_settle 64 = .ok (.ireturn, 1) := by decide +kernel
theorem dX4_settle_65 : decode cX4_settle 65 = .ok (.aload_n 0, 1) := by decide +kernel
theorem dX4_settle_66 : decode cX4_settle 66 = .ok (.iload_n 1, 1) := by decide +kernel
theorem dX4_settle_67 : decode cX4_settle 67 = .ok (.invokevirtual 213, 3) := by decide +kernel
theorem dX4_settle_70 : decode cX4_settle 70 = .ok (.ifCond .ne 8, 3) := by decide +kernel
theorem dX4_settle_73 : decode cX4_settle 73 = .ok (.bipush (-12), 2) := by decide +kernel
theorem dX4_settle_75 : decode cX4_settle 75 = .ok (.goto 5, 3) := by decide +kernel
theorem dX4_settle_78 : decode cX4_settle 78 = .ok (.bipush (-11), 2) := by decide +kernel
theorem dX4_settle_80 : decode cX4_settle 80 = .ok (.istore_n 2, 1) := by decide +kernel
theorem dX4_settle_81 : decode cX4_settle 81 = .ok (.aload_n 0, 1) := by decide +kernel
theorem dX4_settle_82 : decode cX4_settle 82 = .ok (.iload_n 1, 1) := by decide +kernel
theorem dX4_settle_83 : decode cX4_settle 83 = .ok (.iload_n 2, 1) := by decide +kernel
theorem dX4_settle_84 : decode cX4_settle 84 = .ok (.invokevirtual 233, 3) := by decide +kernel
theorem dX4_settle_87 : decode cX4_settle 87 = .ok (.iload_n 2, 1) := by decide +kernel
theorem dX4_settle_88 : decode cX4_settle 88 = .ok (.ireturn, 1) := by decide +kernel
theorem dX4_deal_0 : decode cX4_deal 0 = .ok (.iload_n 1, 1) := by decide +kernel
theorem dX4_deal_1 : decode cX4_deal 1 = .ok (.invokestatic 201, 3) := by decide +kernel
theorem dX4_deal_4 : decode cX4_deal 4 = .ok (.ifCond .ne 6, 3) := by decide +kernel
theorem dX4_deal_7 : decode cX4_deal 7 = .ok (.bipush (-2), 2) := by decide +kernel
theorem dX4_deal_9 : decode cX4_deal 9 = .ok (.ireturn, 1) := by decide +kernel
theorem dX4_deal_10 : decode cX4_deal 10 = .ok (.iload_n 2, 1) := by decide +kernel
theorem dX4_deal_11 : decode cX4_deal 11 = .ok (.tableswitch 171 0 11 #[61, 68, 75, 82, 89, 96, 103, 118, 132, 138, 144, 150], 61) := by decide +kernel
theorem dX4_deal_72 : decode cX4_deal 72 = .ok (.aload_n 0, 1) := by decide +kernel
theorem dX4_deal_73 : decode cX4_deal 73 = .ok (.getfield 19, 3) := by decide +kernel
theorem dX4_deal_76 : decode cX4_deal 76 = .ok (.iload_n 1, 1) := by decide +kernel
theorem dX4_deal_77 : decode cX4_deal 77 = .ok (.iaload, 1) := by decide +kernel
theorem dX4_deal_78 : decode cX4_deal 78 = .ok (.ireturn, 1) := by decide +kernel
theorem dX4_deal_79 : decode cX4_deal 79 = .ok (.aload_n 0, 1) := by decide +kernel
theorem dX4_deal_80 : decode cX4_deal 80 = .ok (.getfield 22, 3) := by decide +kernel
theorem dX4_deal_83 : decode cX4_deal 83 = .ok (.iload_n 1, 1) := by decide +kernel
theorem dX4_deal_84 : decode cX4_deal 84 = .ok (.iaload, 1) := by decide +kernel
theorem dX4_deal_85 : decode cX4_deal 85 = .ok (.ireturn, 1) := by decide +kernel
theorem dX4_deal_86 : decode cX4_deal 86 = .ok (.aload_n 0, 1) := by decide +kernel
theorem dX4_deal_87 : decode cX4_deal 87 = .ok (.getfield 25, 3) := by decide +kernel
theorem dX4_deal_90 : decode cX4_deal 90 = .ok (.iload_n 1, 1) := by decide +kernel
theorem dX4_deal_91 : decode cX4_deal 91 = .ok (.iaload, 1) := by decide +kernel
theorem dX4_deal_92 : decode cX4_deal 92 = .ok (.ireturn, 1) := by decide +kernel
theorem dX4_deal_93 : decode cX4_deal 93 = .ok (.aload_n 0, 1) := by decide +kernel
theorem dX4_deal_94 : decode cX4_deal 94 = .ok (.getfield 28, 3) := by decide +kernel
theorem dX4_deal_97 : decode cX4_deal 97 = .ok (.iload_n 1, 1) := by decide +kernel
theorem dX4_deal_98 : decode cX4_deal 98 = .ok (.iaload, 1) := by decide +kernel
theorem dX4_deal_99 : decode cX4_deal 99 = .ok (.ireturn, 1) := by decide +kernel
theorem dX4_deal_100 : decode cX4_deal 100 = .ok (.aload_n 0, 1) := by decide +kernel
theorem dX4_deal_101 : decode cX4_deal 101 = .ok (.getfield 35, 3) := by decide +kernel
theorem dX4_deal_104 : decode cX4_deal 104 = .ok (.iload_n 1, 1) := by decide +kernel
theorem dX4_deal_105 : decode cX4_deal 105 = .ok (.iaload, 1) := by decide +kernel
theorem dX4_deal_106 : decode cX4_deal 106 = .ok (.ireturn, 1) := by decide +kernel
theorem dX4_deal_107 : decode cX4_deal 107 = .ok (.aload_n 0, 1) := by decide +kernel
theorem dX4_deal_108 : decode cX4_deal 108 = .ok (.getfield 38, 3) := by decide +kernel
theorem dX4_deal_111 : decode cX4_deal 111 = .ok (.iload_n 1, 1) := by decide +kernel
theorem dX4_deal_112 : decode cX4_deal 112 = .ok (.iaload, 1) := by decide +kernel
theorem dX4_deal_113 : decode cX4_deal 113 = .ok (.ireturn, 1) := by decide +kernel
theorem dX4_deal_114 : decode cX4_deal 114 = .ok (.aload_n 0, 1) := by decide +kernel
theorem dX4_deal_115 : decode cX4_deal 115 = .ok (.getfield 31, 3) := by decide +kernel
theorem dX4_deal_118 : decode cX4_deal 118 = .ok (.iload_n 1, 1) := by decide +kernel
theorem dX4_deal_119 : decode cX4_deal 119 = .ok (.baload, 1) := by decide +kernel
theorem dX4_deal_120 : decode cX4_deal 120 = .ok (.ifCond .eq 7, 3) := by decide +kernel
theorem dX4_deal_123 : decode cX4_deal 123 = .ok (.iconst 1, 1) := by decide +kernel
theorem dX4_deal_124 : decode cX4_deal 124 = .ok (.goto 4, 3) := by decide +kernel
theorem dX4_deal_127 : decode cX4_deal 127 = .ok (.iconst 0, 1) := by decide +kernel
theorem dX4_deal_128 : decode cX4_deal 128 = .ok (.ireturn, 1) := by decide +kernel
theorem dX4_deal_129 : decode cX4_deal 129 = .ok (.aload_n 0, 1) := by decide +kernel
theorem dX4_deal_130 : decode cX4_deal 130 = .ok (.iload_n 1, 1) := by decide +kernel
theorem dX4_deal_131 : decode cX4_deal 131 = .ok (.invokevirtual 210, 3) := by decide +kernel
theorem dX4_deal_134 : decode cX4_deal 134 = .ok (.ifCond .eq 7, 3) := by decide +kernel
theorem dX4_deal_137 : decode cX4_deal 137 = .ok (.iconst 1, 1) := by decide +kernel
theorem dX4_deal_138 : decode cX4_deal 138 = .ok (.goto 4, 3) := by decide +kernel
theorem dX4_deal_141 : decode cX4_deal 141 = .ok (.iconst 0, 1) := by decide +kernel
theorem dX4_deal_142 : decode cX4_deal 142 = .ok (.ireturn, 1) := by decide +kernel
theorem dX4_deal_143 : decode cX4_deal 143 = .ok (.aload_n 0, 1) := by decide +kernel
theorem dX4_deal_144 : decode cX4_deal 144 = .ok (.iload_n 1, 1) := by decide +kernel
theorem dX4_deal_145 : decode cX4_deal 145 = .ok (.invokevirtual 213, 3) := by decide +kernel
theorem dX4_deal_148 : decode cX4_deal 148 = .ok (.ireturn, 1) := by decide +kernel
theorem dX4_deal_149 : decode cX4_deal 149 = .ok (.aload_n 0, 1) := by decide +kernel
theorem dX4_deal_150 : decode cX4_deal 150 = .ok (.iload_n 1, 1) := by decide +kernel
theorem dX4_deal_151 : decode cX4_deal 151 = .ok (.invokevirtual 216, 3) := by decide +kernel
theorem dX4_deal_154 : decode cX4_deal 154 = .ok (.ireturn, 1) := by decide +kernel
theorem dX4_deal_155 : decode cX4_deal 155 = .ok (.aload_n 0, 1) := by decide +kernel
theorem dX4_deal_156 : decode cX4_deal 156 = .ok (.iload_n 1, 1) := by decide +kernel
theorem dX4_deal_157 : decode cX4_deal 157 = .ok (.invokevirtual 219, 3) := by decide +kernel
theorem dX4_deal_160 : decode cX4_deal 160 = .ok (.ireturn, 1) := by decide +kernel
theorem dX4_deal_161 : decode cX4_deal 161 = .ok (.aload_n 0, 1) := by decide +kernel
theorem dX4_deal_162 : decode cX4_deal 162 = .ok (.getfield 19, 3) := by decide +kernel
theorem dX4_deal_165 : decode cX4_deal 165 = .ok (.iload_n 1, 1) := by decide +kernel
theorem dX4_deal_166 : decode cX4_deal 166 = .ok (.iaload, 1) := by decide +kernel
theorem dX4_deal_167 : decode cX4_deal 167 = .ok (.iconst 3, 1) := by decide +kernel
theorem dX4_deal_168 : decode cX4_deal 168 = .ok (.if_icmp .ne 12, 3) := by decide +kernel
theorem dX4_deal_171 : decode cX4_deal 171 = .ok (.aload_n 0, 1) := by decide +kernel
theorem dX4_deal_172 : decode cX4_deal 172 = .ok (.getfield 50, 3) := by decide +kernel
theorem dX4_deal_175 : decode cX4_deal 175 = .ok (.iload_n 1, 1) := by decide +kernel
theorem dX4_deal_176 : decode cX4_deal 176 = .ok (.iaload, 1) := by decide +kernel
theorem dX4_deal_177 : decode cX4_deal 177 = .ok (.goto 4, 3) := by decide +kernel
theorem dX4_deal_180 : decode cX4_deal 180 = .ok (.iconst (-1), 1) := by decide +kernel
theorem dX4_deal_181 : decode cX4_deal 181 = .ok (.ireturn, 1) := by decide +kernel
theorem dX4_deal_182 : decode cX4_deal 182 = .ok (.bipush (-3), 2) := by decide +kernel
theorem dX4_deal_184 : decode cX4_deal 184 = .ok (.ireturn, 1) := by decide +kernel
theorem dX4_noted_0 : decode cX4_noted 0 = .ok (.iload_n 1, 1) := by decide +kernel
theorem dX4_noted_1 : decode cX4_noted 1 = .ok (.invokestatic 201, 3) := by decide +kernel
theorem dX4_noted_4 : decode cX4_noted 4 = .ok (.ifCond .eq 10, 3) := by decide +kernel
theorem dX4_noted_7 : decode cX4_noted 7 = .ok (.iload_n 2, 1) := by decide +kernel
theorem dX4_noted_8 : decode cX4_noted 8 = .ok (.invokestatic 180, 3) := by decide +kernel
theorem dX4_noted_11 : decode cX4_noted 11 = .ok (.ifCond .ne 6, 3) := by decide +kernel
theorem dX4_noted_14 : decode cX4_noted 14 = .ok (.bipush (-2), 2) := by decide +kernel
theorem dX4_noted_16 : decode cX4_noted 16 = .ok (.ireturn, 1) := by decide +kernel
theorem dX4_noted_17 : decode cX4_noted 17 = .ok (.bipush 8, 2) := by decide +kernel
theorem dX4_noted_19 : decode cX4_noted 19 = .ok (.iload_n 1, 1) := by decide +kernel
theorem dX4_noted_20 : decode cX4_noted 20 = .ok (.imul, 1) := by decide +kernel
theorem dX4_noted_21 : decode cX4_noted 21 = .ok (.iload_n 2, 1) := by decide +kernel
theorem dX4_noted_22 : decode cX4_noted 22 = .ok (.iadd, 1) := by decide +kernel
theorem dX4_noted_23 : decode cX4_noted 23 = .ok (.istore 4, 2) := by decide +kernel
theorem dX4_noted_25 : decode cX4_noted 25 = .ok (.iload_n 3, 1) := by decide +kernel
theorem dX4_noted_26 : decode cX4_noted 26 = .ok (.tableswitch 101 0 2 #[26, 51, 76], 26) := by decide +kernel
theorem dX4_noted_52 : decode cX4_noted 52 = .ok (.aload_n 0, 1) := by decide +kernel
theorem dX4_noted_53 : decode cX4_noted 53 = .ok (.getfield 35, 3) := by decide +kernel
theorem dX4_noted_56 : decode cX4_noted 56 = .ok (.iload_n 1, 1) := by decide +kernel
theorem dX4_noted_57 : decode cX4_noted 57 = .ok (.iaload, 1) := by decide +kernel
theorem dX4_noted_58 : decode cX4_noted 58 = .ok (.iload_n 2, 1) := by decide +kernel
theorem dX4_noted_59 : decode cX4_noted 59 = .ok (.invokestatic 183, 3) := by decide +kernel
theorem dX4_noted_62 : decode cX4_noted 62 = .ok (.ifCond .eq 13, 3) := by decide +kernel
theorem dX4_noted_65 : decode cX4_noted 65 = .ok (.aload_n 0, 1) := by decide +kernel
theorem dX4_noted_66 : decode cX4_noted 66 = .ok (.getfield 41, 3) := by decide +kernel
theorem dX4_noted_69 : decode cX4_noted 69 = .ok (.iload 4, 2) := by decide +kernel
theorem dX4_noted_71 : decode cX4_noted 71 = .ok (.iaload, 1) := by decide +kernel
theorem dX4_noted_72 : decode cX4_noted 72 = .ok (.goto 4, 3) := by decide +kernel
theorem dX4_noted_75 : decode cX4_noted 75 = .ok (.iconst (-1), 1) := by decide +kernel
theorem dX4_noted_76 : decode cX4_noted 76 = .ok (.ireturn, 1) := by decide +kernel
theorem dX4_noted_77 : decode cX4_noted 77 = .ok (.aload_n 0, 1) := by decide +kernel
theorem dX4_noted_78 : decode cX4_noted 78 = .ok (.getfield 35, 3) := by decide +kernel
theorem dX4_noted_81 : decode cX4_noted 81 = .ok (.iload_n 1, 1) := by decide +kernel
theorem dX4_noted_82 : decode cX4_noted 82 = .ok (.iaload, 1) := by decide +kernel
theorem dX4_noted_83 : decode cX4_noted 83 = .ok (.iload_n 2, 1) := by decide +kernel
theorem dX4_noted_84 : decode cX4_noted 84 = .ok (.invokestatic 183, 3) := by decide +kernel
theorem dX4_noted_87 : decode cX4_noted 87 = .ok (.ifCond .eq 13, 3) := by decide +kernel
theorem dX4_noted_90 : decode cX4_noted 90 = .ok (.aload_n 0, 1) := by decide +kernel
theorem dX4_noted_91 : decode cX4_noted 91 = .ok (.getfield 44, 3) := by decide +kernel
theorem dX4_noted_94 : decode cX4_noted 94 = .ok (.iload 4, 2) := by decide +kernel
theorem dX4_noted_96 : decode cX4_noted 96 = .ok (.iaload, 1) := by decide +kernel
theorem dX4_noted_97 : decode cX4_noted 97 = .ok (.goto 4, 3) := by decide +kernel
theorem dX4_noted_100 : decode cX4_noted 100 = .ok (.iconst (-1), 1) := by decide +kernel
theorem dX4_noted_101 : decode cX4_noted 101 = .ok (.ireturn, 1) := by decide +kernel
theorem dX4_noted_102 : decode cX4_noted 102 = .ok (.aload_n 0, 1) := by decide +kernel
theorem dX4_noted_103 : decode cX4_noted 103 = .ok (.getfield 38, 3) := by decide +kernel
theorem dX4_noted_106 : decode cX4_noted 106 = .ok (.iload_n 1, 1) := by decide +kernel
theorem dX4_noted_107 : decode cX4_noted 107 = .ok (.iaload, 1) := by decide +kernel
theorem dX4_noted_108 : decode cX4_noted 108 = .ok (.iload_n 2, 1) := by decide +kernel
theorem dX4_noted_109 : decode cX4_noted 109 = .ok (.invokestatic 183, 3) := by decide +kernel
theorem dX4_noted_112 : decode cX4_noted 112 = .ok (.ifCond .eq 13, 3) := by decide +kernel
theorem dX4_noted_115 : decode cX4_noted 115 = .ok (.aload_n 0, 1) := by decide +kernel
theorem dX4_noted_116 : decode cX4_noted 116 = .ok (.getfield 47, 3) := by decide +kernel
theorem dX4_noted_119 : decode cX4_noted 119 = .ok (.iload 4, 2) := by decide +kernel
theorem dX4_noted_121 : decode cX4_noted 121 = .ok (.iaload, 1) := by decide +kernel
theorem dX4_noted_122 : decode cX4_noted 122 = .ok (.goto 4, 3) := by decide +kernel
theorem dX4_noted_125 : decode cX4_noted 125 = .ok (.iconst (-1), 1) := by decide +kernel
theorem dX4_noted_126 : decode cX4_noted 126 = .ok (.ireturn, 1) := by decide +kernel
theorem dX4_noted_127 : decode cX4_noted 127 = .ok (.bipush (-3), 2) := by decide +kernel
theorem dX4_noted_129 : decode cX4_noted 129 = .ok (.ireturn, 1) := by decide +kernel
theorem dX4_sent_0 : decode cX4_sent 0 = .ok (.iconst 0, 1) := by decide +kernel
theorem dX4_sent_1 : decode cX4_sent 1 = .ok (.istore_n 2, 1) := by decide +kernel
theorem dX4_sent_2 : decode cX4_sent 2 = .ok (.iload_n 2, 1) := by decide +kernel
theorem dX4_sent_3 : decode cX4_sent 3 = .ok (.bipush 6, 2) := by decide +kernel
theorem dX4_sent_5 : decode cX4_sent 5 = .ok (.if_icmp .ge 79, 3) := by decide +kernel
theorem dX4_sent_8 : decode cX4_sent 8 = .ok (.iconst 0, 1) := by decide +kernel
theorem dX4_sent_9 : decode cX4_sent 9 = .ok (.istore_n 3, 1) := by decide +kernel
theorem dX4_sent_10 : decode cX4_sent 10 = .ok (.iconst 0, 1) := by decide +kernel
theorem dX4_sent_11 : decode cX4_sent 11 = .ok (.istore 4, 2) := by decide +kernel
theorem dX4_sent_13 : decode cX4_sent 13 = .ok (.iload 4, 2) := by decide +kernel
theorem dX4_sent_15 : decode cX4_sent 15 = .ok (.bipush 6, 2) := by decide +kernel
theorem dX4_sent_17 : decode cX4_sent 17 = .ok (.if_icmp .ge 44, 3) := by decide +kernel
theorem dX4_sent_20 : decode cX4_sent 20 = .ok (.iload_n 3, 1) := by decide +kernel
theorem dX4_sent_21 : decode cX4_sent 21 = .ok (.aload_n 0, 1) := by decide +kernel
theorem dX4_sent_22 : decode cX4_sent 22 = .ok (.getfield 19, 3) := by decide +kernel
theorem dX4_sent_25 : decode cX4_sent 25 = .ok (.iload 4, 2) := by decide +kernel
theorem dX4_sent_27 : decode cX4_sent 27 = .ok (.iaload, 1) := by decide +kernel
theorem dX4_sent_28 : decode cX4_sent 28 = .ok (.iconst 3, 1) := by decide +kernel
theorem dX4_sent_29 : decode cX4_sent 29 = .ok (.if_icmp .ne 23, 3) := by decide +kernel
theorem dX4_sent_32 : decode cX4_sent 32 = .ok (.aload_n 0, 1) := by decide +kernel
theorem dX4_sent_33 : decode cX4_sent 33 = .ok (.getfield 50, 3) := by decide +kernel
theorem dX4_sent_36 : decode cX4_sent 36 = .ok (.iload 4, 2) := by decide +kernel
theorem dX4_sent_38 : decode cX4_sent 38 = .ok (.iaload, 1) := by decide +kernel
theorem dX4_sent_39 : decode cX4_sent 39 = .ok (.aload_n 0, 1) := by decide +kernel
theorem dX4_sent_40 : decode cX4_sent 40 = .ok (.getfield 50, 3) := by decide +kernel
theorem dX4_sent_43 : decode cX4_sent 43 = .ok (.iload_n 2, 1) := by decide +kernel
theorem dX4_sent_44 : decode cX4_sent 44 = .ok (.iaload, 1) := by decide +kernel
theorem dX4_sent_45 : decode cX4_sent 45 = .ok (.if_icmp .ge 7, 3) := by decide +kernel
theorem dX4_sent_48 : decode cX4_sent 48 = .ok (.iconst 1, 1) := by decide +kernel
theorem dX4_sent_49 : decode cX4_sent 49 = .ok (.goto 4, 3) := by decide +kernel
theorem dX4_sent_52 : decode cX4_sent 52 = .ok (.iconst 0, 1) := by decide +kernel
theorem dX4_sent_53 : decode cX4_sent 53 = .ok (.iadd, 1) := by decide +kernel
theorem dX4_sent_54 : decode cX4_sent 54 = .ok (.istore_n 3, 1) := by decide +kernel
theorem dX4_sent_55 : decode cX4_sent 55 = .ok (.iinc 4 1, 3) := by decide +kernel
theorem dX4_sent_58 : decode cX4_sent 58 = .ok (.goto (-45), 3) := by decide +kernel
theorem dX4_sent_61 : decode cX4_sent 61 = .ok (.aload_n 0, 1) := by decide +kernel
theorem dX4_sent_62 : decode cX4_sent 62 = .ok (.getfield 19, 3) := by decide +kernel
theorem dX4_sent_65 : decode cX4_sent 65 = .ok (.iload_n 2, 1) := by decide +kernel
theorem dX4_sent_66 : decode cX4_sent 66 = .ok (.iaload, 1) := by decide +kernel
theorem dX4_sent_67 : decode cX4_sent 67 = .ok (.iconst 3, 1) := by decide +kernel
theorem dX4_sent_68 : decode cX4_sent 68 = .ok (.if_icmp .ne 10, 3) := by decide +kernel
theorem dX4_sent_71 : decode cX4_sent 71 = .ok (.iload_n 3, 1) := by decide +kernel
theorem dX4_sent_72 : decode cX4_sent 72 = .ok (.iload_n 1, 1) := by decide +kernel
theorem dX4_sent_73 : decode cX4_sent 73 = .ok (.if_icmp .ne 5, 3) := by decide +kernel
theorem dX4_sent_76 : decode cX4_sent 76 = .ok (.iload_n 2, 1) := by decide +kernel
theorem dX4_sent_77 : decode cX4_sent 77 = .ok (.ireturn, 1) := by decide +kernel
theorem dX4_sent_78 : decode cX4_sent 78 = .ok (.iinc 2 1, 3) := by decide +kernel
theorem dX4_sent_81 : decode cX4_sent 81 = .ok (.goto (-79), 3) := by decide +kernel
theorem dX4_sent_84 : decode cX4_sent 84 = .ok (.bipush (-2), 2) := by decide +kernel
theorem dX4_sent_86 : decode cX4_sent 86 = .ok (.ireturn, 1) := by decide +kernel
theorem dX4_ballot_0 : decode cX4_ballot 0 = .ok (.iload_n 1, 1) := by decide +kernel
theorem dX4_ballot_1 : decode cX4_ballot 1 = .ok (.i2l, 1) := by decide +kernel
theorem dX4_ballot_2 : decode cX4_ballot 2 = .ok (.lconst 0, 1) := by decide +kernel
theorem dX4_ballot_3 : decode cX4_ballot 3 = .ok (.lconst 1, 1) := by decide +kernel
theorem dX4_ballot_4 : decode cX4_ballot 4 = .ok (.invokestatic 71, 3) := by decide +kernel
theorem dX4_ballot_7 : decode cX4_ballot 7 = .ok (.ifCond .eq 10, 3) := by decide +kernel
theorem dX4_ballot_10 : decode cX4_ballot 10 = .ok (.iload_n 2, 1) := by decide +kernel
theorem dX4_ballot_11 : decode cX4_ballot 11 = .ok (.invokestatic 201, 3) := by decide +kernel
theorem dX4_ballot_14 : decode cX4_ballot 14 = .ok (.ifCond .ne 6, 3) := by decide +kernel
theorem dX4_ballot_17 : decode cX4_ballot 17 = .ok (.bipush (-2), 2) := by decide +kernel
theorem dX4_ballot_19 : decode cX4_ballot 19 = .ok (.ireturn, 1) := by decide +kernel
theorem dX4_ballot_20 : decode cX4_ballot 20 = .ok (.aload_n 0, 1) := by decide +kernel
theorem dX4_ballot_21 : decode cX4_ballot 21 = .ok (.getfield 19, 3) := by decide +kernel
theorem dX4_ballot_24 : decode cX4_ballot 24 = .ok (.iload_n 2, 1) := by decide +kernel
theorem dX4_ballot_25 : decode cX4_ballot 25 = .ok (.iaload, 1) := by decide +kernel
theorem dX4_ballot_26 : decode cX4_ballot 26 = .ok (.iconst 3, 1) := by decide +kernel
theorem dX4_ballot_27 : decode cX4_ballot 27 = .ok (.if_icmp .ne 19, 3) := by decide +kernel
theorem dX4_ballot_30 : decode cX4_ballot 30 = .ok (.aload_n 0, 1) := by decide +kernel
theorem dX4_ballot_31 : decode cX4_ballot 31 = .ok (.getfield 53, 3) := by decide +kernel
theorem dX4_ballot_34 : decode cX4_ballot 34 = .ok (.bipush 6, 2) := by decide +kernel
theorem dX4_ballot_36 : decode cX4_ballot 36 = .ok (.iload_n 1, 1) := by decide +kernel
theorem dX4_ballot_37 : decode cX4_ballot 37 = .ok (.imul, 1) := by decide +kernel
theorem dX4_ballot_38 : decode cX4_ballot 38 = .ok (.iload_n 2, 1) := by decide +kernel
theorem dX4_ballot_39 : decode cX4_ballot 39 = .ok (.iadd, 1) := by decide +kernel
theorem dX4_ballot_40 : decode cX4_ballot 40 = .ok (.iaload, 1) := by decide +kernel
theorem dX4_ballot_41 : decode cX4_ballot 41 = .ok (.iconst 1, 1) := by decide +kernel
theorem dX4_ballot_42 : decode cX4_ballot 42 = .ok (.isub, 1) := by decide +kernel
theorem dX4_ballot_43 : decode cX4_ballot 43 = .ok (.goto 5, 3) := by decide +kernel
theorem dX4_ballot_46 : decode cX4_ballot 46 = .ok (.bipush (-4), 2) := by decide +kernel
theorem dX4_ballot_48 : decode cX4_ballot 48 = .ok (.ireturn, 1) := by decide +kernel
theorem dX4_isCommit_0 : decode cX4_isCommit 0 = .ok (.iload_n 1, 1) := by decide +kernel
theorem dX4_isCommit_1 : decode cX4_isCommit 1 = .ok (.i2l, 1) := by decide +kernel
theorem dX4_isCommit_2 : decode cX4_isCommit 2 = .ok (.lconst 1, 1) := by decide +kernel
theorem dX4_isCommit_3 : decode cX4_isCommit 3 = .ok (.aload_n 0, 1) := by decide +kernel
theorem dX4_isCommit_4 : decode cX4_isCommit 4 = .ok (.getfield 81, 3) := by decide +kernel
theorem dX4_isCommit_7 : decode cX4_isCommit 7 = .ok (.i2l, 1) := by decide +kernel
theorem dX4_isCommit_8 : decode cX4_isCommit 8 = .ok (.invokestatic 71, 3) := by decide +kernel
theorem dX4_isCommit_11 : decode cX4_isCommit 11 = .ok (.ireturn, 1) := by decide +kernel
theorem dX4_log_0 : decode cX4_log 0 = .ok (.aload_n 0, 1) := by decide +kernel
theorem dX4_log_1 : decode cX4_log 1 = .ok (.iload_n 1, 1) := by decide +kernel
theorem dX4_log_2 : decode cX4_log 2 = .ok (.invokevirtual 241, 3) := by decide +kernel
theorem dX4_log_5 : decode cX4_log 5 = .ok (.ifCond .ne 6, 3) := by decide +kernel
theorem dX4_log_8 : decode cX4_log 8 = .ok (.bipush (-2), 2) := by decide +kernel
theorem dX4_log_10 : decode cX4_log 10 = .ok (.ireturn, 1) := by decide +kernel
theorem dX4_log_11 : decode cX4_log 11 = .ok (.iload_n 2, 1) := by decide +kernel
theorem dX4_log_12 : decode cX4_log 12 = .ok (.i2l, 1) := by decide +kernel
theorem dX4_log_13 : decode cX4_log 13 = .ok (.lconst 0, 1) := by decide +kernel
theorem dX4_log_14 : decode cX4_log 14 = .ok (.ldc2_w 75, 3) := by decide +kernel
theorem dX4_log_17 : decode cX4_log 17 = .ok (.invokestatic 71, 3) := by decide +kernel
theorem dX4_log_20 : decode cX4_log 20 = .ok (.ifCond .eq 19, 3) := by decide +kernel
theorem dX4_log_23 : decode cX4_log 23 = .ok (.aload_n 0, 1) := by decide +kernel
theorem dX4_log_24 : decode cX4_log 24 = .ok (.getfield 16, 3) := by decide +kernel
theorem dX4_log_27 : decode cX4_log 27 = .ok (.bipush 22, 2) := by decide +kernel
theorem dX4_log_29 : decode cX4_log 29 = .ok (.iload_n 1, 1) := by decide +kernel
theorem dX4_log_30 : decode cX4_log 30 = .ok (.iconst 1, 1) := by decide +kernel
theorem dX4_log_31 : decode cX4_log 31 = .ok (.isub, 1) := by decide +kernel
theorem dX4_log_32 : decode cX4_log 32 = .ok (.imul, 1) := by decide +kernel
theorem dX4_log_33 : decode cX4_log 33 = .ok (.iload_n 2, 1) := by decide +kernel
theorem dX4_log_34 : decode cX4_log 34 = .ok (.iadd, 1) := by decide +kernel
theorem dX4_log_35 : decode cX4_log 35 = .ok (.iaload, 1) := by decide +kernel
theorem dX4_log_36 : decode cX4_log 36 = .ok (.goto 5, 3) := by decide +kernel
theorem dX4_log_39 : decode cX4_log 39 = .ok (.bipush (-3), 2) := by decide +kernel
theorem dX4_log_41 : decode cX4_log 41 = .ok (.ireturn, 1) := by decide +kernel
theorem dX4_logged_0 : decode cX4_logged 0 = .ok (.aload_n 0, 1) := by decide +kernel
theorem dX4_logged_1 : decode cX4_logged 1 = .ok (.iload_n 1, 1) := by decide +kernel
theorem dX4_logged_2 : decode cX4_logged 2 = .ok (.invokevirtual 241, 3) := by decide +kernel
theorem dX4_logged_5 : decode cX4_logged 5 = .ok (.ifCond .eq 10, 3) := by decide +kernel
theorem dX4_logged_8 : decode cX4_logged 8 = .ok (.iload_n 2, 1) := by decide +kernel
theorem dX4_logged_9 : decode cX4_logged 9 = .ok (.invokestatic 180, 3) := by decide +kernel
theorem dX4_logged_12 : decode cX4_logged 12 = .ok (.ifCond .ne 6, 3) := by decide +kernel
theorem dX4_logged_15 : decode cX4_logged 15 = .ok (.bipush (-2), 2) := by decide +kernel
theorem dX4_logged_17 : decode cX4_logged 17 = .ok (.ireturn, 1) := by decide +kernel
theorem dX4_logged_18 : decode cX4_logged 18 = .ok (.bipush 22, 2) := by decide +kernel
theorem dX4_logged_20 : decode cX4_logged 20 = .ok (.iload_n 1, 1) := by decide +kernel
theorem dX4_logged_21 : decode cX4_logged 21 = .ok (.iconst 1, 1) := by decide +kernel
theorem dX4_logged_22 : decode cX4_logged 22 = .ok (.isub, 1) := by decide +kernel
theorem dX4_logged_23 : decode cX4_logged 23 = .ok (.imul, 1) := by decide +kernel
theorem dX4_logged_24 : decode cX4_logged 24 = .ok (.iload_n 2, 1) := by decide +kernel
theorem dX4_logged_25 : decode cX4_logged 25 = .ok (.iadd, 1) := by decide +kernel
theorem dX4_logged_26 : decode cX4_logged 26 = .ok (.istore 4, 2) := by decide +kernel
theorem dX4_logged_28 : decode cX4_logged 28 = .ok (.iload_n 3, 1) := by decide +kernel
theorem dX4_logged_29 : decode cX4_logged 29 = .ok (.ifCond .ne 16, 3) := by decide +kernel
theorem dX4_logged_32 : decode cX4_logged 32 = .ok (.aload_n 0, 1) := by decide +kernel
theorem dX4_logged_33 : decode cX4_logged 33 = .ok (.getfield 16, 3) := by decide +kernel
theorem dX4_logged_36 : decode cX4_logged 36 = .ok (.iload 4, 2) := by decide +kernel
theorem dX4_logged_38 : decode cX4_logged 38 = .ok (.bipush 6, 2) := by decide +kernel
theorem dX4_logged_40 : decode cX4_logged 40 = .ok (.iadd, 1) := by decide +kernel
theorem dX4_logged_41 : decode cX4_logged 41 = .ok (.iaload, 1) := by decide +kernel
theorem dX4_logged_42 : decode cX4_logged 42 = .ok (.goto 23, 3) := by decide +kernel
theorem dX4_logged_45 : decode cX4_logged 45 = .ok (.iload_n 3, 1) := by decide +kernel
theorem dX4_logged_46 : decode cX4_logged 46 = .ok (.iconst 1, 1) := by decide +kernel
theorem dX4_logged_47 : decode cX4_logged 47 = .ok (.if_icmp .ne 16, 3) := by decide +kernel
theorem dX4_logged_50 : decode cX4_logged 50 = .ok (.aload_n 0, 1) := by decide +kernel
theorem dX4_logged_51 : decode cX4_logged 51 = .ok (.getfield 16, 3) := by decide +kernel
theorem dX4_logged_54 : decode cX4_logged 54 = .ok (.iload 4, 2) := by decide +kernel
theorem dX4_logged_56 : decode cX4_logged 56 = .ok (.bipush 14, 2) := by decide +kernel
theorem dX4_logged_58 : decode cX4_logged 58 = .ok (.iadd, 1) := by decide +kernel
theorem dX4_logged_59 : decode cX4_logged 59 = .ok (.iaload, 1) := by decide +kernel
theorem dX4_logged_60 : decode cX4_logged 60 = .ok (.goto 5, 3) := by decide +kernel
theorem dX4_logged_63 : decode cX4_logged 63 = .ok (.bipush (-3), 2) := by decide +kernel
theorem dX4_logged_65 : decode cX4_logged 65 = .ok (.ireturn, 1) := by decide +kernel
theorem dX4_behind_0 : decode cX4_behind 0 = .ok (.aload_n 0, 1) := by decide +kernel
theorem dX4_behind_1 : decode cX4_behind 1 = .ok (.iload_n 1, 1) := by decide +kernel
theorem dX4_behind_2 : decode cX4_behind 2 = .ok (.invokevirtual 241, 3) := by decide +kernel
theorem dX4_behind_5 : decode cX4_behind 5 = .ok (.ifCond .eq 16, 3) := by decide +kernel
theorem dX4_behind_8 : decode cX4_behind 8 = .ok (.aload_n 0, 1) := by decide +kernel
theorem dX4_behind_9 : decode cX4_behind 9 = .ok (.iload_n 2, 1) := by decide +kernel
theorem dX4_behind_10 : decode cX4_behind 10 = .ok (.invokevirtual 241, 3) := by decide +kernel
theorem dX4_behind_13 : decode cX4_behind 13 = .ok (.ifCond .eq 8, 3) := by decide +kernel
theorem dX4_behind_16 : decode cX4_behind 16 = .ok (.iload_n 2, 1) := by decide +kernel
theorem dX4_behind_17 : decode cX4_behind 17 = .ok (.iload_n 1, 1) := by decide +kernel
theorem dX4_behind_18 : decode cX4_behind 18 = .ok (.if_icmp .lt 6, 3) := by decide +kernel
theorem dX4_behind_21 : decode cX4_behind 21 = .ok (.bipush (-2), 2) := by decide +kernel
theorem dX4_behind_23 : decode cX4_behind 23 = .ok (.ireturn, 1) := by decide +kernel
theorem dX4_behind_24 : decode cX4_behind 24 = .ok (.bipush 22, 2) := by decide +kernel
theorem dX4_behind_26 : decode cX4_behind 26 = .ok (.iload_n 1, 1) := by decide +kernel
theorem dX4_behind_27 : decode cX4_behind 27 = .ok (.iconst 1, 1) := by decide +kernel
theorem dX4_behind_28 : decode cX4_behind 28 = .ok (.isub, 1) := by decide +kernel
theorem dX4_behind_29 : decode cX4_behind 29 = .ok (.imul, 1) := by decide +kernel
theorem dX4_behind_30 : decode cX4_behind 30 = .ok (.istore_n 3, 1) := by decide +kernel
theorem dX4_behind_31 : decode cX4_behind 31 = .ok (.bipush 22, 2) := by decide +kernel
theorem dX4_behind_33 : decode cX4_behind 33 = .ok (.iload_n 2, 1) := by decide +kernel
theorem dX4_behind_34 : decode cX4_behind 34 = .ok (.iconst 1, 1) := by decide +kernel
theorem dX4_behind_35 : decode cX4_behind 35 = .ok (.isub, 1) := by decide +kernel
theorem dX4_behind_36 : decode cX4_behind 36 = .ok (.imul, 1) := by decide +kernel
theorem dX4_behind_37 : decode cX4_behind 37 = .ok (.istore 4, 2) := by decide +kernel
theorem dX4_behind_39 : decode cX4_behind 39 = .ok (.iconst 0, 1) := by decide +kernel
theorem dX4_behind_40 : decode cX4_behind 40 = .ok (.istore 5, 2) := by decide +kernel
theorem dX4_behind_42 : decode cX4_behind 42 = .ok (.iconst 0, 1) := by decide +kernel
theorem dX4_behind_43 : decode cX4_behind 43 = .ok (.istore 6, 2) := by decide +kernel
theorem dX4_behind_45 : decode cX4_behind 45 = .ok (.iload 6, 2) := by decide +kernel
theorem dX4_behind_47 : decode cX4_behind 47 = .ok (.bipush 8, 2) := by decide +kernel
theorem dX4_behind_49 : decode cX4_behind 49 = .ok (.if_icmp .ge 35, 3) := by decide +kernel
theorem dX4_behind_52 : decode cX4_behind 52 = .ok (.iload 5, 2) := by decide +kernel
theorem dX4_behind_54 : decode cX4_behind 54 = .ok (.aload_n 0, 1) := by decide +kernel
theorem dX4_behind_55 : decode cX4_behind 55 = .ok (.getfield 16, 3) := by decide +kernel
theorem dX4_behind_58 : decode cX4_behind 58 = .ok (.iload_n 3, 1) := by decide +kernel
theorem dX4_behind_59 : decode cX4_behind 59 = .ok (.bipush 6, 2) := by decide +kernel
theorem dX4_behind_61 : decode cX4_behind 61 = .ok (.iadd, 1) := by decide +kernel
theorem dX4_behind_62 : decode cX4_behind 62 = .ok (.iload 6, 2) := by decide +kernel
theorem dX4_behind_64 : decode cX4_behind 64 = .ok (.iadd, 1) := by decide +kernel
theorem dX4_behind_65 : decode cX4_behind 65 = .ok (.iaload, 1) := by decide +kernel
theorem dX4_behind_66 : decode cX4_behind 66 = .ok (.iload_n 2, 1) := by decide +kernel
theorem dX4_behind_67 : decode cX4_behind 67 = .ok (.if_icmp .ne 7, 3) := by decide +kernel
theorem dX4_behind_70 : decode cX4_behind 70 = .ok (.iconst 1, 1) := by decide +kernel
theorem dX4_behind_71 : decode cX4_behind 71 = .ok (.goto 4, 3) := by decide +kernel
theorem dX4_behind_74 : decode cX4_behind 74 = .ok (.iconst 0, 1) := by decide +kernel
theorem dX4_behind_75 : decode cX4_behind 75 = .ok (.ior, 1) := by decide +kernel
theorem dX4_behind_76 : decode cX4_behind 76 = .ok (.istore 5, 2) := by decide +kernel
theorem dX4_behind_78 : decode cX4_behind 78 = .ok (.iinc 6 1, 3) := by decide +kernel
theorem dX4_behind_81 : decode cX4_behind 81 = .ok (.goto (-36), 3) := by decide +kernel
theorem dX4_behind_84 : decode cX4_behind 84 = .ok (.iload 5, 2) := by decide +kernel
theorem dX4_behind_86 : decode cX4_behind 86 = .ok (.aload_n 0, 1) := by decide +kernel
theorem dX4_behind_87 : decode cX4_behind 87 = .ok (.getfield 16, 3) := by decide +kernel
theorem dX4_behind_90 : decode cX4_behind 90 = .ok (.iload_n 3, 1) := by decide +kernel
theorem dX4_behind_91 : decode cX4_behind 91 = .ok (.iconst 4, 1) := by decide +kernel
theorem dX4_behind_92 : decode cX4_behind 92 = .ok (.iadd, 1) := by decide +kernel
theorem dX4_behind_93 : decode cX4_behind 93 = .ok (.iaload, 1) := by decide +kernel
theorem dX4_behind_94 : decode cX4_behind 94 = .ok (.aload_n 0, 1) := by decide +kernel
theorem dX4_behind_95 : decode cX4_behind 95 = .ok (.getfield 16, 3) := by decide +kernel
theorem dX4_behind_98 : decode cX4_behind 98 = .ok (.iload 4, 2) := by decide +kernel
theorem dX4_behind_100 : decode cX4_behind 100 = .ok (.iconst 4, 1) := by decide +kernel
theorem dX4_behind_101 : decode cX4_behind 101 = .ok (.iadd, 1) := by decide +kernel
theorem dX4_behind_102 : decode cX4_behind 102 = .ok (.iaload, 1) := by decide +kernel
theorem dX4_behind_103 : decode cX4_behind 103 = .ok (.iand, 1) := by decide +kernel
theorem dX4_behind_104 : decode cX4_behind 104 = .ok (.ifCond .eq 7, 3) := by decide +kernel
theorem dX4_behind_107 : decode cX4_behind 107 = .ok (.iconst 2, 1) := by decide +kernel
theorem dX4_behind_108 : decode cX4_behind 108 = .ok (.goto 4, 3) := by decide +kernel
theorem dX4_behind_111 : decode cX4_behind 111 = .ok (.iconst 0, 1) := by decide +kernel
theorem dX4_behind_112 : decode cX4_behind 112 = .ok (.ior, 1) := by decide +kernel
theorem dX4_behind_113 : decode cX4_behind 113 = .ok (.istore 5, 2) := by decide +kernel
theorem dX4_behind_115 : decode cX4_behind 115 = .ok (.iload 5, 2) := by decide +kernel
theorem dX4_behind_117 : decode cX4_behind 117 = .ok (.aload_n 0, 1) := by decide +kernel
theorem dX4_behind_118 : decode cX4_behind 118 = .ok (.getfield 16, 3) := by decide +kernel
theorem dX4_behind_121 : decode cX4_behind 121 = .ok (.iload_n 3, 1) := by decide +kernel
theorem dX4_behind_122 : decode cX4_behind 122 = .ok (.iconst 4, 1) := by decide +kernel
theorem dX4_behind_123 : decode cX4_behind 123 = .ok (.iadd, 1) := by decide +kernel
theorem dX4_behind_124 : decode cX4_behind 124 = .ok (.iaload, 1) := by decide +kernel
theorem dX4_behind_125 : decode cX4_behind 125 = .ok (.aload_n 0, 1) := by decide +kernel
theorem dX4_behind_126 : decode cX4_behind 126 = .ok (.getfield 16, 3) := by decide +kernel
theorem dX4_behind_129 : decode cX4_behind 129 = .ok (.iload 4, 2) := by decide +kernel
theorem dX4_behind_131 : decode cX4_behind 131 = .ok (.iconst 3, 1) := by decide +kernel
theorem dX4_behind_132 : decode cX4_behind 132 = .ok (.iadd, 1) := by decide +kernel
theorem dX4_behind_133 : decode cX4_behind 133 = .ok (.iaload, 1) := by decide +kernel
theorem dX4_behind_134 : decode cX4_behind 134 = .ok (.iand, 1) := by decide +kernel
theorem dX4_behind_135 : decode cX4_behind 135 = .ok (.ifCond .eq 7, 3) := by decide +kernel
theorem dX4_behind_138 : decode cX4_behind 138 = .ok (.iconst 4, 1) := by decide +kernel
theorem dX4_behind_139 : decode cX4_behind 139 = .ok (.goto 4, 3) := by decide +kernel
theorem dX4_behind_142 : decode cX4_behind 142 = .ok (.iconst 0, 1) := by decide +kernel
theorem dX4_behind_143 : decode cX4_behind 143 = .ok (.ior, 1) := by decide +kernel
theorem dX4_behind_144 : decode cX4_behind 144 = .ok (.ireturn, 1) := by decide +kernel
theorem dX4_allValues_0 : decode cX4_allValues 0 = .ok (.iconst 0, 1) := by decide +kernel
theorem dX4_allValues_1 : decode cX4_allValues 1 = .ok (.istore_n 1, 1) := by decide +kernel
theorem dX4_allValues_2 : decode cX4_allValues 2 = .ok (.iconst 0, 1) := by decide +kernel
theorem dX4_allValues_3 : decode cX4_allValues 3 = .ok (.istore_n 2, 1) := by decide +kernel
theorem dX4_allValues_4 : decode cX4_allValues 4 = .ok (.iload_n 2, 1) := by decide +kernel
theorem dX4_allValues_5 : decode cX4_allValues 5 = .ok (.bipush 8, 2) := by decide +kernel
theorem dX4_allValues_7 : decode cX4_allValues 7 = .ok (.if_icmp .ge 18, 3) := by decide +kernel
theorem dX4_allValues_10 : decode cX4_allValues 10 = .ok (.iload_n 1, 1) := by decide +kernel
theorem dX4_allValues_11 : decode cX4_allValues 11 = .ok (.aload_n 0, 1) := by decide +kernel
theorem dX4_allValues_12 : decode cX4_allValues 12 = .ok (.getfield 7, 3) := by decide +kernel
theorem dX4_allValues_15 : decode cX4_allValues 15 = .ok (.iload_n 2, 1) := by decide +kernel
theorem dX4_allValues_16 : decode cX4_allValues 16 = .ok (.iaload, 1) := by decide +kernel
theorem dX4_allValues_17 : decode cX4_allValues 17 = .ok (.iadd, 1) := by decide +kernel
theorem dX4_allValues_18 : decode cX4_allValues 18 = .ok (.istore_n 1, 1) := by decide +kernel
theorem dX4_allValues_19 : decode cX4_allValues 19 = .ok (.iinc 2 1, 3) := by decide +kernel
theorem dX4_allValues_22 : decode cX4_allValues 22 = .ok (.goto (-18), 3) := by decide +kernel
theorem dX4_allValues_25 : decode cX4_allValues 25 = .ok (.iload_n 1, 1) := by decide +kernel
theorem dX4_allValues_26 : decode cX4_allValues 26 = .ok (.ireturn, 1) := by decide +kernel
theorem dX4_count_0 : decode cX4_count 0 = .ok (.iload_n 1, 1) := by decide +kernel
theorem dX4_count_1 : decode cX4_count 1 = .ok (.tableswitch 117 0 10 #[59, 64, 70, 76, 82, 87, 92, 97, 102, 107, 112], 59) := by decide +kernel
theorem dX4_count_60 : decode cX4_count 60 = .ok (.aload_n 0, 1) := by decide +kernel
theorem dX4_count_61 : decode cX4_count 61 = .ok (.getfield 81, 3) := by decide +kernel
theorem dX4_count_64 : decode cX4_count 64 = .ok (.ireturn, 1) := by decide +kernel
theorem dX4_count_65 : decode cX4_count 65 = .ok (.aload_n 0, 1) := by decide +kernel
theorem dX4_count_66 : decode cX4_count 66 = .ok (.iconst 1, 1) := by decide +kernel
theorem dX4_count_67 : decode cX4_count 67 = .ok (.invokevirtual 189, 3) := by decide +kernel
theorem dX4_count_70 : decode cX4_count 70 = .ok (.ireturn, 1) := by decide +kernel
theorem dX4_count_71 : decode cX4_count 71 = .ok (.aload_n 0, 1) := by decide +kernel
theorem dX4_count_72 : decode cX4_count 72 = .ok (.iconst 3, 1) := by decide +kernel
theorem dX4_count_73 : decode cX4_count 73 = .ok (.invokevirtual 189, 3) := by decide +kernel
theorem dX4_count_76 : decode cX4_count 76 = .ok (.ireturn, 1) := by decide +kernel
theorem dX4_count_77 : decode cX4_count 77 = .ok (.aload_n 0, 1) := by decide +kernel
theorem dX4_count_78 : decode cX4_count 78 = .ok (.iconst 2, 1) := by decide +kernel
theorem dX4_count_79 : decode cX4_count 79 = .ok (.invokevirtual 189, 3) := by decide +kernel
theorem dX4_count_82 : decode cX4_count 82 = .ok (.ireturn, 1) := by decide +kernel
theorem dX4_count_83 : decode cX4_count 83 = .ok (.aload_n 0, 1) := by decide +kernel
theorem dX4_count_84 : decode cX4_count 84 = .ok (.getfield 90, 3) := by decide +kernel
theorem dX4_count_87 : decode cX4_count 87 = .ok (.ireturn, 1) := by decide +kernel
theorem dX4_count_88 : decode cX4_count 88 = .ok (.aload_n 0, 1) := by decide +kernel
theorem dX4_count_89 : decode cX4_count 89 = .ok (.getfield 93, 3) := by decide +kernel
theorem dX4_count_92 : decode cX4_count 92 = .ok (.ireturn, 1) := by decide +kernel
theorem dX4_count_93 : decode cX4_count 93 = .ok (.aload_n 0, 1) := by decide +kernel
theorem dX4_count_94 : decode cX4_count 94 = .ok (.getfield 96, 3) := by decide +kernel
theorem dX4_count_97 : decode cX4_count 97 = .ok (.ireturn, 1) := by decide +kernel
theorem dX4_count_98 : decode cX4_count 98 = .ok (.aload_n 0, 1) := by decide +kernel
theorem dX4_count_99 : decode cX4_count 99 = .ok (.getfield 87, 3) := by decide +kernel
theorem dX4_count_102 : decode cX4_count 102 = .ok (.ireturn, 1) := by decide +kernel
theorem dX4_count_103 : decode cX4_count 103 = .ok (.aload_n 0, 1) := by decide +kernel
