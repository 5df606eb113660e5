theorem dX3_read_86 : decode cX3_read 86 = .ok (.iaload, 1) := by decide +kernel
theorem dX3_read_87 : decode cX3_read 87 = .ok (.ireturn, 1) := by decide +kernel
theorem dX3_lay_0 : decode cX3_lay 0 = .ok (.iload_n 1, 1) := by decide +kernel
theorem dX3_lay_1 : decode cX3_lay 1 = .ok (.invokestatic 86, 3) := by decide +kernel
theorem dX3_lay_4 : decode cX3_lay 4 = .ok (.ifCond .eq 10, 3) := by decide +kernel
theorem dX3_lay_7 : decode cX3_lay 7 = .ok (.iload_n 2, 1) := by decide +kernel
theorem dX3_lay_8 : decode cX3_lay 8 = .ok (.invokestatic 58, 3) := by decide +kernel
theorem dX3_lay_11 : decode cX3_lay 11 = .ok (.ifCond .ne 6, 3) := by decide +kernel
theorem dX3_lay_14 : decode cX3_lay 14 = .ok (.bipush (-2), 2) := by decide +kernel
theorem dX3_lay_16 : decode cX3_lay 16 = .ok (.ireturn, 1) := by decide +kernel
theorem dX3_lay_17 : decode cX3_lay 17 = .ok (.iload_n 3, 1) := by decide +kernel
theorem dX3_lay_18 : decode cX3_lay 18 = .ok (.invokestatic 62, 3) := by decide +kernel
theorem dX3_lay_21 : decode cX3_lay 21 = .ok (.ifCond .ne 6, 3) := by decide +kernel
theorem dX3_lay_24 : decode cX3_lay 24 = .ok (.bipush (-3), 2) := by decide +kernel
theorem dX3_lay_26 : decode cX3_lay 26 = .ok (.ireturn, 1) := by decide +kernel
theorem dX3_lay_27 : decode cX3_lay 27 = .ok (.aload_n 0, 1) := by decide +kernel
theorem dX3_lay_28 : decode cX3_lay 28 = .ok (.getfield 25, 3) := by decide +kernel
theorem dX3_lay_31 : decode cX3_lay 31 = .ok (.iload_n 1, 1) := by decide +kernel
theorem dX3_lay_32 : decode cX3_lay 32 = .ok (.aaload, 1) := by decide +kernel
theorem dX3_lay_33 : decode cX3_lay 33 = .ok (.astore 4, 2) := by decide +kernel
theorem dX3_lay_35 : decode cX3_lay 35 = .ok (.aload 4, 2) := by decide +kernel
theorem dX3_lay_37 : decode cX3_lay 37 = .ok (.getfield 89, 3) := by decide +kernel
theorem dX3_lay_40 : decode cX3_lay 40 = .ok (.iconst 1, 1) := by decide +kernel
theorem dX3_lay_41 : decode cX3_lay 41 = .ok (.if_icmp .eq 6, 3) := by decide +kernel
theorem dX3_lay_44 : decode cX3_lay 44 = .ok (.bipush (-4), 2) := by decide +kernel
theorem dX3_lay_46 : decode cX3_lay 46 = .ok (.ireturn, 1) := by decide +kernel
theorem dX3_lay_47 : decode cX3_lay 47 = .ok (.aload 4, 2) := by decide +kernel
theorem dX3_lay_49 : decode cX3_lay 49 = .ok (.dup, 1) := by decide +kernel
theorem dX3_lay_50 : decode cX3_lay 50 = .ok (.getfield 109, 3) := by decide +kernel
theorem dX3_lay_53 : decode cX3_lay 53 = .ok (.iload_n 2, 1) := by decide +kernel
theorem dX3_lay_54 : decode cX3_lay 54 = .ok (.invokestatic 128, 3) := by decide +kernel
theorem dX3_lay_57 : decode cX3_lay 57 = .ok (.ior, 1) := by decide +kernel
theorem dX3_lay_58 : decode cX3_lay 58 = .ok (.putfield 109, 3) := by decide +kernel
theorem dX3_lay_61 : decode cX3_lay 61 = .ok (.aload 4, 2) := by decide +kernel
theorem dX3_lay_63 : decode cX3_lay 63 = .ok (.getfield 116, 3) := by decide +kernel
theorem dX3_lay_66 : decode cX3_lay 66 = .ok (.iload_n 2, 1) := by decide +kernel
theorem dX3_lay_67 : decode cX3_lay 67 = .ok (.iload_n 3, 1) := by decide +kernel
theorem dX3_lay_68 : decode cX3_lay 68 = .ok (.iastore, 1) := by decide +kernel
theorem dX3_lay_69 : decode cX3_lay 69 = .ok (.aload 4, 2) := by decide +kernel
theorem dX3_lay_71 : decode cX3_lay 71 = .ok (.getfield 109, 3) := by decide +kernel
theorem dX3_lay_74 : decode cX3_lay 74 = .ok (.invokestatic 131, 3) := by decide +kernel
theorem dX3_lay_77 : decode cX3_lay 77 = .ok (.ireturn, 1) := by decide +kernel
theorem dX3_commit_0 : decode cX3_commit 0 = .ok (.iload_n 1, 1) := by decide +kernel
theorem dX3_commit_1 : decode cX3_commit 1 = .ok (.invokestatic 86, 3) := by decide +kernel
theorem dX3_commit_4 : decode cX3_commit 4 = .ok (.ifCond .ne 6, 3) := by decide +kernel
theorem dX3_commit_7 : decode cX3_commit 7 = .ok (.bipush (-2), 2) := by decide +kernel
theorem dX3_commit_9 : decode cX3_commit 9 = .ok (.ireturn, 1) := by decide +kernel
theorem dX3_commit_10 : decode cX3_commit 10 = .ok (.aload_n 0, 1) := by decide +kernel
theorem dX3_commit_11 : decode cX3_commit 11 = .ok (.getfield 25, 3) := by decide +kernel
theorem dX3_commit_14 : decode cX3_commit 14 = .ok (.iload_n 1, 1) := by decide +kernel
theorem dX3_commit_15 : decode cX3_commit 15 = .ok (.aaload, 1) := by decide +kernel
theorem dX3_commit_16 : decode cX3_commit 16 = .ok (.astore_n 3, 1) := by decide +kernel
theorem dX3_commit_17 : decode cX3_commit 17 = .ok (.aload_n 0, 1) := by decide +kernel
theorem dX3_commit_18 : decode cX3_commit 18 = .ok (.aload_n 3, 1) := by decide +kernel
theorem dX3_commit_19 : decode cX3_commit 19 = .ok (.iload_n 2, 1) := by decide +kernel
theorem dX3_commit_20 : decode cX3_commit 20 = .ok (.invokevirtual 136, 3) := by decide +kernel
theorem dX3_commit_23 : decode cX3_commit 23 = .ok (.istore 4, 2) := by decide +kernel
theorem dX3_commit_25 : decode cX3_commit 25 = .ok (.iload 4, 2) := by decide +kernel
theorem dX3_commit_27 : decode cX3_commit 27 = .ok (.invokestatic 140, 3) := by decide +kernel
theorem dX3_commit_30 : decode cX3_commit 30 = .ok (.ifCond .eq 11, 3) := by decide +kernel
theorem dX3_commit_33 : decode cX3_commit 33 = .ok (.aload_n 0, 1) := by decide +kernel
theorem dX3_commit_34 : decode cX3_commit 34 = .ok (.aload_n 3, 1) := by decide +kernel
theorem dX3_commit_35 : decode cX3_commit 35 = .ok (.iload 4, 2) := by decide +kernel
theorem dX3_commit_37 : decode cX3_commit 37 = .ok (.invokevirtual 143, 3) := by decide +kernel
theorem dX3_commit_40 : decode cX3_commit 40 = .ok (.ireturn, 1) := by decide +kernel
theorem dX3_commit_41 : decode cX3_commit 41 = .ok (.iload 4, 2) := by decide +kernel
theorem dX3_commit_43 : decode cX3_commit 43 = .ok (.ifCond .ge 6, 3) := by decide +kernel
theorem dX3_commit_46 : decode cX3_commit 46 = .ok (.iload 4, 2) := by decide +kernel
theorem dX3_commit_48 : decode cX3_commit 48 = .ok (.ireturn, 1) := by decide +kernel
theorem dX3_commit_49 : decode cX3_commit 49 = .ok (.iload_n 2, 1) := by decide +kernel
theorem dX3_commit_50 : decode cX3_commit 50 = .ok (.iconst 2, 1) := by decide +kernel
theorem dX3_commit_51 : decode cX3_commit 51 = .ok (.if_icmp .ne 12, 3) := by decide +kernel
theorem dX3_commit_54 : decode cX3_commit 54 = .ok (.aload_n 0, 1) := by decide +kernel
theorem dX3_commit_55 : decode cX3_commit 55 = .ok (.aload_n 0, 1) := by decide +kernel
theorem dX3_commit_56 : decode cX3_commit 56 = .ok (.aload_n 3, 1) := by decide +kernel
theorem dX3_commit_57 : decode cX3_commit 57 = .ok (.invokevirtual 146, 3) := by decide +kernel
theorem dX3_commit_60 : decode cX3_commit 60 = .ok (.invokevirtual 150, 3) := by decide +kernel
theorem dX3_commit_63 : decode cX3_commit 63 = .ok (.aload_n 0, 1) := by decide +kernel
theorem dX3_commit_64 : decode cX3_commit 64 = .ok (.aload_n 3, 1) := by decide +kernel
theorem dX3_commit_65 : decode cX3_commit 65 = .ok (.iload_n 2, 1) := by decide +kernel
theorem dX3_commit_66 : decode cX3_commit 66 = .ok (.invokevirtual 153, 3) := by decide +kernel
theorem dX3_commit_69 : decode cX3_commit 69 = .ok (.ireturn, 1) := by decide +kernel
theorem dX3_peek_0 : decode cX3_peek 0 = .ok (.iload_n 1, 1) := by decide +kernel
theorem dX3_peek_1 : decode cX3_peek 1 = .ok (.invokestatic 86, 3) := by decide +kernel
theorem dX3_peek_4 : decode cX3_peek 4 = .ok (.ifCond .eq 17, 3) := by decide +kernel
theorem dX3_peek_7 : decode cX3_peek 7 = .ok (.aload_n 0, 1) := by decide +kernel
theorem dX3_peek_8 : decode cX3_peek 8 = .ok (.aload_n 0, 1) := by decide +kernel
theorem dX3_peek_9 : decode cX3_peek 9 = .ok (.getfield 25, 3) := by decide +kernel
theorem dX3_peek_12 : decode cX3_peek 12 = .ok (.iload_n 1, 1) := by decide +kernel
theorem dX3_peek_13 : decode cX3_peek 13 = .ok (.aaload, 1) := by decide +kernel
theorem dX3_peek_14 : decode cX3_peek 14 = .ok (.iload_n 2, 1) := by decide +kernel
theorem dX3_peek_15 : decode cX3_peek 15 = .ok (.invokevirtual 136, 3) := by decide +kernel
theorem dX3_peek_18 : decode cX3_peek 18 = .ok (.goto 5, 3) := by decide +kernel
theorem dX3_peek_21 : decode cX3_peek 21 = .ok (.bipush (-2), 2) := by decide +kernel
theorem dX3_peek_23 : decode cX3_peek 23 = .ok (.ireturn, 1) := by decide +kernel
theorem dX3_abort_0 : decode cX3_abort 0 = .ok (.iload_n 1, 1) := by decide +kernel
theorem dX3_abort_1 : decode cX3_abort 1 = .ok (.invokestatic 86, 3) := by decide +kernel
theorem dX3_abort_4 : decode cX3_abort 4 = .ok (.ifCond .ne 6, 3) := by decide +kernel
theorem dX3_abort_7 : decode cX3_abort 7 = .ok (.bipush (-2), 2) := by decide +kernel
theorem dX3_abort_9 : decode cX3_abort 9 = .ok (.ireturn, 1) := by decide +kernel
theorem dX3_abort_10 : decode cX3_abort 10 = .ok (.aload_n 0, 1) := by decide +kernel
theorem dX3_abort_11 : decode cX3_abort 11 = .ok (.getfield 25, 3) := by decide +kernel
theorem dX3_abort_14 : decode cX3_abort 14 = .ok (.iload_n 1, 1) := by decide +kernel
theorem dX3_abort_15 : decode cX3_abort 15 = .ok (.aaload, 1) := by decide +kernel
theorem dX3_abort_16 : decode cX3_abort 16 = .ok (.astore_n 2, 1) := by decide +kernel
theorem dX3_abort_17 : decode cX3_abort 17 = .ok (.aload_n 2, 1) := by decide +kernel
theorem dX3_abort_18 : decode cX3_abort 18 = .ok (.getfield 89, 3) := by decide +kernel
theorem dX3_abort_21 : decode cX3_abort 21 = .ok (.iconst 1, 1) := by decide +kernel
theorem dX3_abort_22 : decode cX3_abort 22 = .ok (.if_icmp .eq 14, 3) := by decide +kernel
theorem dX3_abort_25 : decode cX3_abort 25 = .ok (.aload_n 2, 1) := by decide +kernel
theorem dX3_abort_26 : decode cX3_abort 26 = .ok (.getfield 89, 3) := by decide +kernel
theorem dX3_abort_29 : decode cX3_abort 29 = .ok (.iconst 2, 1) := by decide +kernel
theorem dX3_abort_30 : decode cX3_abort 30 = .ok (.if_icmp .eq 6, 3) := by decide +kernel
theorem dX3_abort_33 : decode cX3_abort 33 = .ok (.bipush (-4), 2) := by decide +kernel
theorem dX3_abort_35 : decode cX3_abort 35 = .ok (.ireturn, 1) := by decide +kernel
theorem dX3_abort_36 : decode cX3_abort 36 = .ok (.aload_n 0, 1) := by decide +kernel
theorem dX3_abort_37 : decode cX3_abort 37 = .ok (.aload_n 2, 1) := by decide +kernel
theorem dX3_abort_38 : decode cX3_abort 38 = .ok (.iconst (-1), 1) := by decide +kernel
theorem dX3_abort_39 : decode cX3_abort 39 = .ok (.invokevirtual 143, 3) := by decide +kernel
theorem dX3_abort_42 : decode cX3_abort 42 = .ok (.pop, 1) := by decide +kernel
theorem dX3_abort_43 : decode cX3_abort 43 = .ok (.aload_n 0, 1) := by decide +kernel
theorem dX3_abort_44 : decode cX3_abort 44 = .ok (.iconst 1, 1) := by decide +kernel
theorem dX3_abort_45 : decode cX3_abort 45 = .ok (.invokevirtual 65, 3) := by decide +kernel
theorem dX3_abort_48 : decode cX3_abort 48 = .ok (.ireturn, 1) := by decide +kernel
theorem dX3_sweep_0 : decode cX3_sweep 0 = .ok (.iconst 0, 1) := by decide +kernel
theorem dX3_sweep_1 : decode cX3_sweep 1 = .ok (.istore_n 1, 1) := by decide +kernel
theorem dX3_sweep_2 : decode cX3_sweep 2 = .ok (.aload_n 0, 1) := by decide +kernel
theorem dX3_sweep_3 : decode cX3_sweep 3 = .ok (.getfield 25, 3) := by decide +kernel
theorem dX3_sweep_6 : decode cX3_sweep 6 = .ok (.astore_n 2, 1) := by decide +kernel
theorem dX3_sweep_7 : decode cX3_sweep 7 = .ok (.aload_n 2, 1) := by decide +kernel
theorem dX3_sweep_8 : decode cX3_sweep 8 = .ok (.arraylength, 1) := by decide +kernel
theorem dX3_sweep_9 : decode cX3_sweep 9 = .ok (.istore_n 3, 1) := by decide +kernel
theorem dX3_sweep_10 : decode cX3_sweep 10 = .ok (.iconst 0, 1) := by decide +kernel
theorem dX3_sweep_11 : decode cX3_sweep 11 = .ok (.istore 4, 2) := by decide +kernel
theorem dX3_sweep_13 : decode cX3_sweep 13 = .ok (.iload 4, 2) := by decide +kernel
theorem dX3_sweep_15 : decode cX3_sweep 15 = .ok (.iload_n 3, 1) := by decide +kernel
theorem dX3_sweep_16 : decode cX3_sweep 16 = .ok (.if_icmp .ge 45, 3) := by decide +kernel
theorem dX3_sweep_19 : decode cX3_sweep 19 = .ok (.aload_n 2, 1) := by decide +kernel
theorem dX3_sweep_20 : decode cX3_sweep 20 = .ok (.iload 4, 2) := by decide +kernel
theorem dX3_sweep_22 : decode cX3_sweep 22 = .ok (.aaload, 1) := by decide +kernel
theorem dX3_sweep_23 : decode cX3_sweep 23 = .ok (.astore 5, 2) := by decide +kernel
theorem dX3_sweep_25 : decode cX3_sweep 25 = .ok (.aload 5, 2) := by decide +kernel
theorem dX3_sweep_27 : decode cX3_sweep 27 = .ok (.getfield 89, 3) := by decide +kernel
theorem dX3_sweep_30 : decode cX3_sweep 30 = .ok (.iconst 1, 1) := by decide +kernel
theorem dX3_sweep_31 : decode cX3_sweep 31 = .ok (.if_icmp .ne 24, 3) := by decide +kernel
theorem dX3_sweep_34 : decode cX3_sweep 34 = .ok (.aload_n 0, 1) := by decide +kernel
theorem dX3_sweep_35 : decode cX3_sweep 35 = .ok (.aload 5, 2) := by decide +kernel
theorem dX3_sweep_37 : decode cX3_sweep 37 = .ok (.invokevirtual 156, 3) := by decide +kernel
theorem dX3_sweep_40 : decode cX3_sweep 40 = .ok (.ifCond .eq 15, 3) := by decide +kernel
theorem dX3_sweep_43 : decode cX3_sweep 43 = .ok (.aload_n 0, 1) := by decide +kernel
theorem dX3_sweep_44 : decode cX3_sweep 44 = .ok (.aload 5, 2) := by decide +kernel
theorem dX3_sweep_46 : decode cX3_sweep 46 = .ok (.bipush (-11), 2) := by decide +kernel
theorem dX3_sweep_48 : decode cX3_sweep 48 = .ok (.invokevirtual 143, 3) := by decide +kernel
theorem dX3_sweep_51 : decode cX3_sweep 51 = .ok (.pop, 1) := by decide +kernel
theorem dX3_sweep_52 : decode cX3_sweep 52 = .ok (.iinc 1 1, 3) := by decide +kernel
theorem dX3_sweep_55 : decode cX3_sweep 55 = .ok (.iinc 4 1, 3) := by decide +kernel
theorem dX3_sweep_58 : decode cX3_sweep 58 = .ok (.goto (-45), 3) := by decide +kernel
theorem dX3_sweep_61 : decode cX3_sweep 61 = .ok (.iload_n 1, 1) := by decide +kernel
theorem dX3_sweep_62 : decode cX3_sweep 62 = .ok (.ireturn, 1) := by decide +kernel
theorem dX3_send_0 : decode cX3_send 0 = .ok (.iload_n 1, 1) := by decide +kernel
theorem dX3_send_1 : decode cX3_send 1 = .ok (.invokestatic 86, 3) := by decide +kernel
theorem dX3_send_4 : decode cX3_send 4 = .ok (.ifCond .ne 6, 3) := by decide +kernel
theorem dX3_send_7 : decode cX3_send 7 = .ok (.bipush (-2), 2) := by decide +kernel
theorem dX3_send_9 : decode cX3_send 9 = .ok (.ireturn, 1) := by decide +kernel
theorem dX3_send_10 : decode cX3_send 10 = .ok (.aload_n 0, 1) := by decide +kernel
theorem dX3_send_11 : decode cX3_send 11 = .ok (.getfield 25, 3) := by decide +kernel
theorem dX3_send_14 : decode cX3_send 14 = .ok (.iload_n 1, 1) := by decide +kernel
theorem dX3_send_15 : decode cX3_send 15 = .ok (.aaload, 1) := by decide +kernel
theorem dX3_send_16 : decode cX3_send 16 = .ok (.astore_n 2, 1) := by decide +kernel
theorem dX3_send_17 : decode cX3_send 17 = .ok (.aload_n 2, 1) := by decide +kernel
theorem dX3_send_18 : decode cX3_send 18 = .ok (.getfield 89, 3) := by decide +kernel
theorem dX3_send_21 : decode cX3_send 21 = .ok (.iconst 1, 1) := by decide +kernel
theorem dX3_send_22 : decode cX3_send 22 = .ok (.if_icmp .eq 6, 3) := by decide +kernel
theorem dX3_send_25 : decode cX3_send 25 = .ok (.bipush (-4), 2) := by decide +kernel
theorem dX3_send_27 : decode cX3_send 27 = .ok (.ireturn, 1) := by decide +kernel
theorem dX3_send_28 : decode cX3_send 28 = .ok (.aload_n 0, 1) := by decide +kernel
theorem dX3_send_29 : decode cX3_send 29 = .ok (.dup, 1) := by decide +kernel
theorem dX3_send_30 : decode cX3_send 30 = .ok (.getfield 159, 3) := by decide +kernel
theorem dX3_send_33 : decode cX3_send 33 = .ok (.iconst 1, 1) := by decide +kernel
theorem dX3_send_34 : decode cX3_send 34 = .ok (.iadd, 1) := by decide +kernel
theorem dX3_send_35 : decode cX3_send 35 = .ok (.putfield 159, 3) := by decide +kernel
theorem dX3_send_38 : decode cX3_send 38 = .ok (.aload_n 2, 1) := by decide +kernel
theorem dX3_send_39 : decode cX3_send 39 = .ok (.aload_n 0, 1) := by decide +kernel
theorem dX3_send_40 : decode cX3_send 40 = .ok (.getfield 159, 3) := by decide +kernel
theorem dX3_send_43 : decode cX3_send 43 = .ok (.invokevirtual 162, 3) := by decide +kernel
theorem dX3_send_46 : decode cX3_send 46 = .ok (.aload_n 2, 1) := by decide +kernel
theorem dX3_send_47 : decode cX3_send 47 = .ok (.getfield 165, 3) := by decide +kernel
theorem dX3_send_50 : decode cX3_send 50 = .ok (.ireturn, 1) := by decide +kernel
theorem dX3_vote_0 : decode cX3_vote 0 = .ok (.iload_n 1, 1) := by decide +kernel
theorem dX3_vote_1 : decode cX3_vote 1 = .ok (.invokestatic 168, 3) := by decide +kernel
theorem dX3_vote_4 : decode cX3_vote 4 = .ok (.ifCond .ne 6, 3) := by decide +kernel
theorem dX3_vote_7 : decode cX3_vote 7 = .ok (.bipush (-2), 2) := by decide +kernel
theorem dX3_vote_9 : decode cX3_vote 9 = .ok (.ireturn, 1) := by decide +kernel
theorem dX3_vote_10 : decode cX3_vote 10 = .ok (.aload_n 0, 1) := by decide +kernel
theorem dX3_vote_11 : decode cX3_vote 11 = .ok (.iload_n 1, 1) := by decide +kernel
theorem dX3_vote_12 : decode cX3_vote 12 = .ok (.invokevirtual 171, 3) := by decide +kernel
theorem dX3_vote_15 : decode cX3_vote 15 = .ok (.istore_n 2, 1) := by decide +kernel
theorem dX3_vote_16 : decode cX3_vote 16 = .ok (.iload_n 2, 1) := by decide +kernel
theorem dX3_vote_17 : decode cX3_vote 17 = .ok (.invokestatic 86, 3) := by decide +kernel
theorem dX3_vote_20 : decode cX3_vote 20 = .ok (.ifCond .ne 6, 3) := by decide +kernel
theorem dX3_vote_23 : decode cX3_vote 23 = .ok (.bipush (-4), 2) := by decide +kernel
theorem dX3_vote_25 : decode cX3_vote 25 = .ok (.ireturn, 1) := by decide +kernel
theorem dX3_vote_26 : decode cX3_vote 26 = .ok (.aload_n 0, 1) := by decide +kernel
theorem dX3_vote_27 : decode cX3_vote 27 = .ok (.getfield 25, 3) := by decide +kernel
theorem dX3_vote_30 : decode cX3_vote 30 = .ok (.iload_n 2, 1) := by decide +kernel
theorem dX3_vote_31 : decode cX3_vote 31 = .ok (.aaload, 1) := by decide +kernel
theorem dX3_vote_32 : decode cX3_vote 32 = .ok (.astore_n 3, 1) := by decide +kernel
theorem dX3_vote_33 : decode cX3_vote 33 = .ok (.aload_n 3, 1) := by decide +kernel
theorem dX3_vote_34 : decode cX3_vote 34 = .ok (.getfield 174, 3) := by decide +kernel
theorem dX3_vote_37 : decode cX3_vote 37 = .ok (.iload_n 1, 1) := by decide +kernel
theorem dX3_vote_38 : decode cX3_vote 38 = .ok (.aload_n 0, 1) := by decide +kernel
theorem dX3_vote_39 : decode cX3_vote 39 = .ok (.iload_n 1, 1) := by decide +kernel
theorem dX3_vote_40 : decode cX3_vote 40 = .ok (.aload_n 3, 1) := by decide +kernel
theorem dX3_vote_41 : decode cX3_vote 41 = .ok (.invokevirtual 177, 3) := by decide +kernel
theorem dX3_vote_44 : decode cX3_vote 44 = .ok (.iastore, 1) := by decide +kernel
theorem dX3_vote_45 : decode cX3_vote 45 = .ok (.aload_n 3, 1) := by decide +kernel
theorem dX3_vote_46 : decode cX3_vote 46 = .ok (.getfield 174, 3) := by decide +kernel
theorem dX3_vote_49 : decode cX3_vote 49 = .ok (.iload_n 1, 1) := by decide +kernel
theorem dX3_vote_50 : decode cX3_vote 50 = .ok (.iaload, 1) := by decide +kernel
theorem dX3_vote_51 : decode cX3_vote 51 = .ok (.ireturn, 1) := by decide +kernel
theorem dX3_settle_0 : decode cX3_settle 0 = .ok (.aload_n 0, 1) := by decide +kernel
theorem dX3_settle_1 : decode cX3_settle 1 = .ok (.iconst 0, 1) := by decide +kernel
theorem dX3_settle_2 : decode cX3_settle 2 = .ok (.invokevirtual 181, 3) := by decide +kernel
theorem dX3_settle_5 : decode cX3_settle 5 = .ok (.istore_n 1, 1) := by decide +kernel
theorem dX3_settle_6 : decode cX3_settle 6 = .ok (.iload_n 1, 1) := by decide +kernel
theorem dX3_settle_7 : decode cX3_settle 7 = .ok (.invokestatic 86, 3) := by decide +kernel
theorem dX3_settle_10 : decode cX3_settle 10 = .ok (.ifCond .ne 6, 3) := by decide +kernel
theorem dX3_settle_13 : decode cX3_settle 13 = .ok (.bipush (-4), 2) := by decide +kernel
theorem dX3_settle_15 : decode cX3_settle 15 = .ok (.ireturn, 1) := by decide +kernel
theorem dX3_settle_16 : decode cX3_settle 16 = .ok (.aload_n 0, 1) := by decide +kernel
theorem dX3_settle_17 : decode cX3_settle 17 = .ok (.getfield 25, 3) := by decide +kernel
theorem dX3_settle_20 : decode cX3_settle 20 = .ok (.iload_n 1, 1) := by decide +kernel
theorem dX3_settle_21 : decode cX3_settle 21 = .ok (.aaload, 1) := by decide +kernel
theorem dX3_settle_22 : decode cX3_settle 22 = .ok (.astore_n 2, 1) := by decide +kernel
theorem dX3_settle_23 : decode cX3_settle 23 = .ok (.aload_n 2, 1) := by decide +kernel
theorem dX3_settle_24 : decode cX3_settle 24 = .ok (.invokevirtual 184, 3) := by decide +kernel
theorem dX3_settle_27 : decode cX3_settle 27 = .ok (.ifCond .ne 6, 3) := by decide +kernel
theorem dX3_settle_30 : decode cX3_settle 30 = .ok (.bipush (-4), 2) := by decide +kernel
theorem dX3_settle_32 : decode cX3_settle 32 = .ok (.ireturn, 1) := by decide +kernel
theorem dX3_settle_33 : decode cX3_settle 33 = .ok (.aload_n 2, 1) := by decide +kernel
theorem dX3_settle_34 : decode cX3_settle 34 = .ok (.invokevirtual 188, 3) := by decide +kernel
theorem dX3_settle_37 : decode cX3_settle 37 = .ok (.ifCond .ne 24, 3) := by decide +kernel
theorem dX3_settle_40 : decode cX3_settle 40 = .ok (.aload_n 0, 1) := by decide +kernel
theorem dX3_settle_41 : decode cX3_settle 41 = .ok (.aload_n 2, 1) := by decide +kernel
theorem dX3_settle_42 : decode cX3_settle 42 = .ok (.aload_n 0, 1) := by decide +kernel
theorem dX3_settle_43 : decode cX3_settle 43 = .ok (.aload_n 2, 1) := by decide +kernel
theorem dX3_settle_44 : decode cX3_settle 44 = .ok (.invokevirtual 156, 3) := by decide +kernel
theorem dX3_settle_47 : decode cX3_settle 47 = .ok (.ifCond .eq 8, 3) := by decide +kernel
theorem dX3_settle_50 : decode cX3_settle 50 = .ok (.bipush (-11), 2) := by decide +kernel
theorem dX3_settle_52 : decode cX3_settle 52 = .ok (.goto 5, 3) := by decide +kernel
theorem dX3_settle_55 : decode cX3_settle 55 = .ok (.bipush (-12), 2) := by decide +kernel
theorem dX3_settle_57 : decode cX3_settle 57 = .ok (.invokevirtual 143, 3) := by decide +kernel
theorem dX3_settle_60 : decode cX3_settle 60 = .ok (.ireturn, 1) := by decide +kernel
theorem dX3_settle_61 : decode cX3_settle 61 = .ok (.aload_n 0, 1) := by decide +kernel
theorem dX3_settle_62 : decode cX3_settle 62 = .ok (.getfield 69, 3) := by decide +kernel
theorem dX3_settle_65 : decode cX3_settle 65 = .ok (.sipush 512, 3) := by decide +kernel
theorem dX3_settle_68 : decode cX3_settle 68 = .ok (.if_icmp .ge 12, 3) := by decide +kernel
theorem dX3_settle_71 : decode cX3_settle 71 = .ok (.aload_n 0, 1) := by decide +kernel
theorem dX3_settle_72 : decode cX3_settle 72 = .ok (.aload_n 2, 1) := by decide +kernel
theorem dX3_settle_73 : decode cX3_settle 73 = .ok (.iconst 3, 1) := by decide +kernel
theorem dX3_settle_74 : decode cX3_settle 74 = .ok (.invokevirtual 153, 3) := by decide +kernel
theorem dX3_settle_77 : decode cX3_settle 77 = .ok (.goto 5, 3) := by decide +kernel
theorem dX3_settle_80 : decode cX3_settle 80 = .ok (.bipush (-5), 2) := by decide +kernel
theorem dX3_settle_82 : decode cX3_settle 82 = .ok (.ireturn, 1) := by decide +kernel
theorem dX3_deal_0 : decode cX3_deal 0 = .ok (.iload_n 1, 1) := by decide +kernel
theorem dX3_deal_1 : decode cX3_deal 1 = .ok (.invokestatic 86, 3) := by decide +kernel
theorem dX3_deal_4 : decode cX3_deal 4 = .ok (.ifCond .ne 6, 3) := by decide +kernel
theorem dX3_deal_7 : decode cX3_deal 7 = .ok (.bipush (-2), 2) := by decide +kernel
theorem dX3_deal_9 : decode cX3_deal 9 = .ok (.ireturn, 1) := by decide +kernel
theorem dX3_deal_10 : decode cX3_deal 10 = .ok (.aload_n 0, 1) := by decide +kernel
theorem dX3_deal_11 : decode cX3_deal 11 = .ok (.getfield 25, 3) := by decide +kernel
theorem dX3_deal_14 : decode cX3_deal 14 = .ok (.iload_n 1, 1) := by decide +kernel
theorem dX3_deal_15 : decode cX3_deal 15 = .ok (.aaload, 1) := by decide +kernel
theorem dX3_deal_16 : decode cX3_deal 16 = .ok (.astore_n 3, 1) := by decide +kernel
theorem dX3_deal_17 : decode cX3_deal 17 = .ok (.iload_n 2, 1) := by decide +kernel
theorem dX3_deal_18 : decode cX3_deal 18 = .ok (.tableswitch 142 0 11 #[62, 67, 72, 77, 82, 87, 92, 105, 119, 125, 131, 137], 62) := by decide +kernel
theorem dX3_deal_80 : decode cX3_deal 80 = .ok (.aload_n 3, 1) := by decide +kernel
theorem dX3_deal_81 : decode cX3_deal 81 = .ok (.getfield 89, 3) := by decide +kernel
theorem dX3_deal_84 : decode cX3_deal 84 = .ok (.ireturn, 1) := by decide +kernel
theorem dX3_deal_85 : decode cX3_deal 85 = .ok (.aload_n 3, 1) := by decide +kernel
theorem dX3_deal_86 : decode cX3_deal 86 = .ok (.getfield 191, 3) := by decide +kernel
theorem dX3_deal_89 : decode cX3_deal 89 = .ok (.ireturn, 1) := by decide +kernel
theorem dX3_deal_90 : decode cX3_deal 90 = .ok (.aload_n 3, 1) := by decide +kernel
theorem dX3_deal_91 : decode cX3_deal 91 = .ok (.getfield 99, 3) := by decide +kernel
theorem dX3_deal_94 : decode cX3_deal 94 = .ok (.ireturn, 1) := by decide +kernel
theorem dX3_deal_95 : decode cX3_deal 95 = .ok (.aload_n 3, 1) := by decide +kernel
theorem dX3_deal_96 : decode cX3_deal 96 = .ok (.getfield 106, 3) := by decide +kernel
theorem dX3_deal_99 : decode cX3_deal 99 = .ok (.ireturn, 1) := by decide +kernel
theorem dX3_deal_100 : decode cX3_deal 100 = .ok (.aload_n 3, 1) := by decide +kernel
theorem dX3_deal_101 : decode cX3_deal 101 = .ok (.getfield 119, 3) := by decide +kernel
theorem dX3_deal_104 : decode cX3_deal 104 = .ok (.ireturn, 1) := by decide +kernel
theorem dX3_deal_105 : decode cX3_deal 105 = .ok (.aload_n 3, 1) := by decide +kernel
theorem dX3_deal_106 : decode cX3_deal 106 = .ok (.getfield 109, 3) := by decide +kernel
theorem dX3_deal_109 : decode cX3_deal 109 = .ok (.ireturn, 1) := by decide +kernel
theorem dX3_deal_110 : decode cX3_deal 110 = .ok (.aload_n 3, 1) := by decide +kernel
theorem dX3_deal_111 : decode cX3_deal 111 = .ok (.getfield 102, 3) := by decide +kernel
theorem dX3_deal_114 : decode cX3_deal 114 = .ok (.ifCond .eq 7, 3) := by decide +kernel
theorem dX3_deal_117 : decode cX3_deal 117 = .ok (.iconst 1, 1) := by decide +kernel
theorem dX3_deal_118 : decode cX3_deal 118 = .ok (.goto 4, 3) := by decide +kernel
theorem dX3_deal_121 : decode cX3_deal 121 = .ok (.iconst 0, 1) := by decide +kernel
theorem dX3_deal_122 : decode cX3_deal 122 = .ok (.ireturn, 1) := by decide +kernel
theorem dX3_deal_123 : decode cX3_deal 123 = .ok (.aload_n 0, 1) := by decide +kernel
theorem dX3_deal_124 : decode cX3_deal 124 = .ok (.aload_n 3, 1) := by decide +kernel
theorem dX3_deal_125 : decode cX3_deal 125 = .ok (.invokevirtual 194, 3) := by decide +kernel
theorem dX3_deal_128 : decode cX3_deal 128 = .ok (.ifCond .eq 7, 3) := by decide +kernel
theorem dX3_deal_131 : decode cX3_deal 131 = .ok (.iconst 1, 1) := by decide +kernel
theorem dX3_deal_132 : decode cX3_deal 132 = .ok (.goto 4, 3) := by decide +kernel
theorem dX3_deal_135 : decode cX3_deal 135 = .ok (.iconst 0, 1) := by decide +kernel
theorem dX3_deal_136 : decode cX3_deal 136 = .ok (.ireturn, 1) := by decide +kernel
theorem dX3_deal_137 : decode cX3_deal 137 = .ok (.aload_n 0, 1) := by decide +kernel
theorem dX3_deal_138 : decode cX3_deal 138 = .ok (.aload_n 3, 1) := by decide +kernel
theorem dX3_deal_139 : decode cX3_deal 139 = .ok (.invokevirtual 156, 3) := by decide +kernel
theorem dX3_deal_142 : decode cX3_deal 142 = .ok (.ireturn, 1) := by decide +kernel
theorem dX3_deal_143 : decode cX3_deal 143 = .ok (.aload_n 0, 1) := by decide +kernel
theorem dX3_deal_144 : decode cX3_deal 144 = .ok (.aload_n 3, 1) := by decide +kernel
theorem dX3_deal_145 : decode cX3_deal 145 = .ok (.invokevirtual 198, 3) := by decide +kernel
theorem dX3_deal_148 : decode cX3_deal 148 = .ok (.ireturn, 1) := by decide +kernel
theorem dX3_deal_149 : decode cX3_deal 149 = .ok (.aload_n 0, 1) := by decide +kernel
theorem dX3_deal_150 : decode cX3_deal 150 = .ok (.aload_n 3, 1) := by decide +kernel
theorem dX3_deal_151 : decode cX3_deal 151 = .ok (.invokevirtual 146, 3) := by decide +kernel
theorem dX3_deal_154 : decode cX3_deal 154 = .ok (.ireturn, 1) := by decide +kernel
theorem dX3_deal_155 : decode cX3_deal 155 = .ok (.aload_n 3, 1) := by decide +kernel
theorem dX3_deal_156 : decode cX3_deal 156 = .ok (.getfield 165, 3) := by decide +kernel
theorem dX3_deal_159 : decode cX3_deal 159 = .ok (.ireturn, 1) := by decide +kernel
theorem dX3_deal_160 : decode cX3_deal 160 = .ok (.bipush (-3), 2) := by decide +kernel
theorem dX3_deal_162 : decode cX3_deal 162 = .ok (.ireturn, 1) := by decide +kernel
theorem dX3_noted_0 : decode cX3_noted 0 = .ok (.iload_n 1, 1) := by decide +kernel
theorem dX3_noted_1 : decode cX3_noted 1 = .ok (.invokestatic 86, 3) := by decide +kernel
theorem dX3_noted_4 : decode cX3_noted 4 = .ok (.ifCond .eq 10, 3) := by decide +kernel
theorem dX3_noted_7 : decode cX3_noted 7 = .ok (.iload_n 2, 1) := by decide +kernel
theorem dX3_noted_8 : decode cX3_noted 8 = .ok (.invokestatic 58, 3) := by decide +kernel
theorem dX3_noted_11 : decode cX3_noted 11 = .ok (.ifCond .ne 6, 3) := by decide +kernel
theorem dX3_noted_14 : decode cX3_noted 14 = .ok (.bipush (-2), 2) := by decide +kernel
theorem dX3_noted_16 : decode cX3_noted 16 = .ok (.ireturn, 1) := by decide +kernel
theorem dX3_noted_17 : decode cX3_noted 17 = .ok (.aload_n 0, 1) := by decide +kernel
theorem dX3_noted_18 : decode cX3_noted 18 = .ok (.getfield 25, 3) := by decide +kernel
theorem dX3_noted_21 : decode cX3_noted 21 = .ok (.iload_n 1, 1) := by decide +kernel
theorem dX3_noted_22 : decode cX3_noted 22 = .ok (.aaload, 1) := by decide +kernel
theorem dX3_noted_23 : decode cX3_noted 23 = .ok (.astore 4, 2) := by decide +kernel
theorem dX3_noted_25 : decode cX3_noted 25 = .ok (.iload_n 3, 1) := by decide +kernel
theorem dX3_noted_26 : decode cX3_noted 26 = .ok (.tableswitch 98 0 2 #[26, 50, 74], 26) := by decide +kernel
theorem dX3_noted_52 : decode cX3_noted 52 = .ok (.aload 4, 2) := by decide +kernel
theorem dX3_noted_54 : decode cX3_noted 54 = .ok (.getfield 119, 3) := by decide +kernel
theorem dX3_noted_57 : decode cX3_noted 57 = .ok (.iload_n 2, 1) := by decide +kernel
theorem dX3_noted_58 : decode cX3_noted 58 = .ok (.invokestatic 112, 3) := by decide +kernel
theorem dX3_noted_61 : decode cX3_noted 61 = .ok (.ifCond .eq 13, 3) := by decide +kernel
theorem dX3_noted_64 : decode cX3_noted 64 = .ok (.aload 4, 2) := by decide +kernel
theorem dX3_noted_66 : decode cX3_noted 66 = .ok (.getfield 125, 3) := by decide +kernel
theorem dX3_noted_69 : decode cX3_noted 69 = .ok (.iload_n 2, 1) := by decide +kernel
theorem dX3_noted_70 : decode cX3_noted 70 = .ok (.iaload, 1) := by decide +kernel
theorem dX3_noted_71 : decode cX3_noted 71 = .ok (.goto 4, 3) := by decide +kernel
theorem dX3_noted_74 : decode cX3_noted 74 = .ok (.iconst (-1), 1) := by decide +kernel
theorem dX3_noted_75 : decode cX3_noted 75 = .ok (.ireturn, 1) := by decide +kernel
theorem dX3_noted_76 : decode cX3_noted 76 = .ok (.aload 4, 2) := by decide +kernel
theorem dX3_noted_78 : decode cX3_noted 78 = .ok (.getfield 119, 3) := by decide +kernel
theorem dX3_noted_81 : decode cX3_noted 81 = .ok (.iload_n 2, 1) := by decide +kernel
theorem dX3_noted_82 : decode cX3_noted 82 = .ok (.invokestatic 112, 3) := by decide +kernel
theorem dX3_noted_85 : decode cX3_noted 85 = .ok (.ifCond .eq 13, 3) := by decide +kernel
theorem dX3_noted_88 : decode cX3_noted 88 = .ok (.aload 4, 2) := by decide +kernel
theorem dX3_noted_90 : decode cX3_noted 90 = .ok (.getfield 201, 3) := by decide +kernel
theorem dX3_noted_93 : decode cX3_noted 93 = .ok (.iload_n 2, 1) := by decide +kernel
theorem dX3_noted_94 : decode cX3_noted 94 = .ok (.iaload, 1) := by decide +kernel
theorem dX3_noted_95 : decode cX3_noted 95 = .ok (.goto 4, 3) := by decide +kernel
theorem dX3_noted_98 : decode cX3_noted 98 = .ok (.iconst (-1), 1) := by decide +kernel
theorem dX3_noted_99 : decode cX3_noted 99 = .ok (.ireturn, 1) := by decide +kernel
theorem dX3_noted_100 : decode cX3_noted 100 = .ok (.aload 4, 2) := by decide +kernel
theorem dX3_noted_102 : decode cX3_noted 102 = .ok (.getfield 109, 3) := by decide +kernel
theorem dX3_noted_105 : decode cX3_noted 105 = .ok (.iload_n 2, 1) := by decide +kernel
theorem dX3_noted_106 : decode cX3_noted 106 = .ok (.invokestatic 112, 3) := by decide +kernel
theorem dX3_noted_109 : decode cX3_noted 109 = .ok (.ifCond .eq 13, 3) := by decide +kernel
theorem dX3_noted_112 : decode cX3_noted 112 = .ok (.aload 4, 2) := by decide +kernel
theorem dX3_noted_114 : decode cX3_noted 114 = .ok (.getfield 116, 3) := by decide +kernel
theorem dX3_noted_117 : decode cX3_noted 117 = .ok (.iload_n 2, 1) := by decide +kernel
theorem dX3_noted_118 : decode cX3_noted 118 = .ok (.iaload, 1) := by decide +kernel
theorem dX3_noted_119 : decode cX3_noted 119 = .ok (.goto 4, 3) := by decide +kernel
theorem dX3_noted_122 : decode cX3_noted 122 = .ok (.iconst (-1), 1) := by decide +kernel
theorem dX3_noted_123 : decode cX3_noted 123 = .ok (.ireturn, 1) := by decide +kernel
theorem dX3_noted_124 : decode cX3_noted 124 = .ok (.bipush (-3), 2) := by decide +kernel
theorem dX3_noted_126 : decode cX3_noted 126 = .ok (.ireturn, 1) := by decide +kernel
theorem dX3_sent_0 : decode cX3_sent 0 = .ok (.aload_n 0, 1) := by decide +kernel
theorem dX3_sent_1 : decode cX3_sent 1 = .ok (.iload_n 1, 1) := by decide +kernel
theorem dX3_sent_2 : decode cX3_sent 2 = .ok (.invokevirtual 181, 3) := by decide +kernel
theorem dX3_sent_5 : decode cX3_sent 5 = .ok (.istore_n 2, 1) := by decide +kernel
theorem dX3_sent_6 : decode cX3_sent 6 = .ok (.iload_n 2, 1) := by decide +kernel
theorem dX3_sent_7 : decode cX3_sent 7 = .ok (.iconst (-1), 1) := by decide +kernel
theorem dX3_sent_8 : decode cX3_sent 8 = .ok (.if_icmp .eq 7, 3) := by decide +kernel
theorem dX3_sent_11 : decode cX3_sent 11 = .ok (.iload_n 2, 1) := by decide +kernel
theorem dX3_sent_12 : decode cX3_sent 12 = .ok (.goto 5, 3) := by decide +kernel
theorem dX3_sent_15 : decode cX3_sent 15 = .ok (.bipush (-2), 2) := by decide +kernel
theorem dX3_sent_17 : decode cX3_sent 17 = .ok (.ireturn, 1) := by decide +kernel
theorem dX3_ballot_0 : decode cX3_ballot 0 = .ok (.iload_n 1, 1) := by decide +kernel
theorem dX3_ballot_1 : decode cX3_ballot 1 = .ok (.invokestatic 168, 3) := by decide +kernel
theorem dX3_ballot_4 : decode cX3_ballot 4 = .ok (.ifCond .eq 10, 3) := by decide +kernel
theorem dX3_ballot_7 : decode cX3_ballot 7 = .ok (.iload_n 2, 1) := by decide +kernel
theorem dX3_ballot_8 : decode cX3_ballot 8 = .ok (.invokestatic 86, 3) := by decide +kernel
theorem dX3_ballot_11 : decode cX3_ballot 11 = .ok (.ifCond .ne 6, 3) := by decide +kernel
theorem dX3_ballot_14 : decode cX3_ballot 14 = .ok (.bipush (-2), 2) := by decide +kernel
theorem dX3_ballot_16 : decode cX3_ballot 16 = .ok (.ireturn, 1) := by decide +kernel
theorem dX3_ballot_17 : decode cX3_ballot 17 = .ok (.aload_n 0, 1) := by decide +kernel
theorem dX3_ballot_18 : decode cX3_ballot 18 = .ok (.getfield 25, 3) := by decide +kernel
theorem dX3_ballot_21 : decode cX3_ballot 21 = .ok (.iload_n 2, 1) := by decide +kernel
theorem dX3_ballot_22 : decode cX3_ballot 22 = .ok (.aaload, 1) := by decide +kernel
theorem dX3_ballot_23 : decode cX3_ballot 23 = .ok (.astore_n 3, 1) := by decide +kernel
theorem dX3_ballot_24 : decode cX3_ballot 24 = .ok (.aload_n 3, 1) := by decide +kernel
theorem dX3_ballot_25 : decode cX3_ballot 25 = .ok (.getfield 89, 3) := by decide +kernel
theorem dX3_ballot_28 : decode cX3_ballot 28 = .ok (.iconst 3, 1) := by decide +kernel
theorem dX3_ballot_29 : decode cX3_ballot 29 = .ok (.if_icmp .ne 12, 3) := by decide +kernel
theorem dX3_ballot_32 : decode cX3_ballot 32 = .ok (.aload_n 3, 1) := by decide +kernel
theorem dX3_ballot_33 : decode cX3_ballot 33 = .ok (.getfield 174, 3) := by decide +kernel
theorem dX3_ballot_36 : decode cX3_ballot 36 = .ok (.iload_n 1, 1) := by decide +kernel
theorem dX3_ballot_37 : decode cX3_ballot 37 = .ok (.iaload, 1) := by decide +kernel
theorem dX3_ballot_38 : decode cX3_ballot 38 = .ok (.goto 5, 3) := by decide +kernel
theorem dX3_ballot_41 : decode cX3_ballot 41 = .ok (.bipush (-4), 2) := by decide +kernel
theorem dX3_ballot_43 : decode cX3_ballot 43 = .ok (.ireturn, 1) := by decide +kernel
theorem dX3_log_0 : decode cX3_log 0 = .ok (.aload_n 0, 1) := by decide +kernel
theorem dX3_log_1 : decode cX3_log 1 = .ok (.iload_n 1, 1) := by decide +kernel
theorem dX3_log_2 : decode cX3_log 2 = .ok (.invokevirtual 204, 3) := by decide +kernel
theorem dX3_log_5 : decode cX3_log 5 = .ok (.astore_n 3, 1) := by decide +kernel
theorem dX3_log_6 : decode cX3_log 6 = .ok (.aload_n 3, 1) := by decide +kernel
theorem dX3_log_7 : decode cX3_log 7 = .ok (.ifnonnull 6, 3) := by decide +kernel
theorem dX3_log_10 : decode cX3_log 10 = .ok (.bipush (-2), 2) := by decide +kernel
theorem dX3_log_12 : decode cX3_log 12 = .ok (.ireturn, 1) := by decide +kernel
theorem dX3_log_13 : decode cX3_log 13 = .ok (.iload_n 2, 1) := by decide +kernel
theorem dX3_log_14 : decode cX3_log 14 = .ok (.tableswitch 68 0 5 #[38, 43, 48, 53, 58, 63], 38) := by decide +kernel
theorem dX3_log_52 : decode cX3_log 52 = .ok (.aload_n 3, 1) := by decide +kernel
theorem dX3_log_53 : decode cX3_log 53 = .ok (.getfield 208, 3) := by decide +kernel
theorem dX3_log_56 : decode cX3_log 56 = .ok (.ireturn, 1) := by decide +kernel
theorem dX3_log_57 : decode cX3_log 57 = .ok (.aload_n 3, 1) := by decide +kernel
theorem dX3_log_58 : decode cX3_log 58 = .ok (.getfield 211, 3) := by decide +kernel
theorem dX3_log_61 : decode cX3_log 61 = .ok (.ireturn, 1) := by decide +kernel
theorem dX3_log_62 : decode cX3_log 62 = .ok (.aload_n 3, 1) := by decide +kernel
theorem dX3_log_63 : decode cX3_log 63 = .ok (.getfield 212, 3) := by decide +kernel
theorem dX3_log_66 : decode cX3_log 66 = .ok (.ireturn, 1) := by decide +kernel
theorem dX3_log_67 : decode cX3_log 67 = .ok (.aload_n 3, 1) := by decide +kernel
theorem dX3_log_68 : decode cX3_log 68 = .ok (.getfield 213, 3) := by decide +kernel
theorem dX3_log_71 : decode cX3_log 71 = .ok (.ireturn, 1) := by decide +kernel
theorem dX3_log_72 : decode cX3_log 72 = .ok (.aload_n 3, 1) := by decide +kernel
theorem dX3_log_73 : decode cX3_log 73 = .ok (.getfield 214, 3) := by decide +kernel
theorem dX3_log_76 : decode cX3_log 76 = .ok (.ireturn, 1) := by decide +kernel
theorem dX3_log_77 : decode cX3_log 77 = .ok (.aload_n 3, 1) := by decide +kernel
theorem dX3_log_78 : decode cX3_log 78 = .ok (.getfield 215, 3) := by decide +kernel
theorem dX3_log_81 : decode cX3_log 81 = .ok (.ireturn, 1) := by decide +kernel
theorem dX3_log_82 : decode cX3_log 82 = .ok (.bipush (-3), 2) := by decide +kernel
theorem dX3_log_84 : decode cX3_log 84 = .ok (.ireturn, 1) := by decide +kernel
theorem dX3_logged_0 : decode cX3_logged 0 = .ok (.aload_n 0, 1) := by decide +kernel
theorem dX3_logged_1 : decode cX3_logged 1 = .ok (.iload_n 1, 1) := by decide +kernel
theorem dX3_logged_2 : decode cX3_logged 2 = .ok (.invokevirtual 204, 3) := by decide +kernel
theorem dX3_logged_5 : decode cX3_logged 5 = .ok (.astore 4, 2) := by decide +kernel
theorem dX3_logged_7 : decode cX3_logged 7 = .ok (.aload 4, 2) := by decide +kernel
theorem dX3_logged_9 : decode cX3_logged 9 = .ok (.ifnull 10, 3) := by decide +kernel
theorem dX3_logged_12 : decode cX3_logged 12 = .ok (.iload_n 2, 1) := by decide +kernel
theorem dX3_logged_13 : decode cX3_logged 13 = .ok (.invokestatic 58, 3) := by decide +kernel
theorem dX3_logged_16 : decode cX3_logged 16 = .ok (.ifCond .ne 6, 3) := by decide +kernel
theorem dX3_logged_19 : decode cX3_logged 19 = .ok (.bipush (-2), 2) := by decide +kernel
theorem dX3_logged_21 : decode cX3_logged 21 = .ok (.ireturn, 1) := by decide +kernel
theorem dX3_logged_22 : decode cX3_logged 22 = .ok (.iload_n 3, 1) := by decide +kernel
theorem dX3_logged_23 : decode cX3_logged 23 = .ok (.lookupswitch 73 #[(0, 25), (1, 49)], 25) := by decide +kernel
theorem dX3_logged_48 : decode cX3_logged 48 = .ok (.aload 4, 2) := by decide +kernel
theorem dX3_logged_50 : decode cX3_logged 50 = .ok (.getfield 213, 3) := by decide +kernel
theorem dX3_logged_53 : decode cX3_logged 53 = .ok (.iload_n 2, 1) := by decide +kernel
theorem dX3_logged_54 : decode cX3_logged 54 = .ok (.invokestatic 112, 3) := by decide +kernel
theorem dX3_logged_57 : decode cX3_logged 57 = .ok (.ifCond .eq 13, 3) := by decide +kernel
theorem dX3_logged_60 : decode cX3_logged 60 = .ok (.aload 4, 2) := by decide +kernel
theorem dX3_logged_62 : decode cX3_logged 62 = .ok (.getfield 218, 3) := by decide +kernel
theorem dX3_logged_65 : decode cX3_logged 65 = .ok (.iload_n 2, 1) := by decide +kernel
theorem dX3_logged_66 : decode cX3_logged 66 = .ok (.iaload, 1) := by decide +kernel
theorem dX3_logged_67 : decode cX3_logged 67 = .ok (.goto 4, 3) := by decide +kernel
theorem dX3_logged_70 : decode cX3_logged 70 = .ok (.iconst (-1), 1) := by decide +kernel
theorem dX3_logged_71 : decode cX3_logged 71 = .ok (.ireturn, 1) := by decide +kernel
theorem dX3_logged_72 : decode cX3_logged 72 = .ok (.aload 4, 2) := by decide +kernel
theorem dX3_logged_74 : decode cX3_logged 74 = .ok (.getfield 214, 3) := by decide +kernel
theorem dX3_logged_77 : decode cX3_logged 77 = .ok (.iload_n 2, 1) := by decide +kernel
theorem dX3_logged_78 : decode cX3_logged 78 = .ok (.invokestatic 112, 3) := by decide +kernel
theorem dX3_logged_81 : decode cX3_logged 81 = .ok (.ifCond .eq 13, 3) := by decide +kernel
theorem dX3_logged_84 : decode cX3_logged 84 = .ok (.aload 4, 2) := by decide +kernel
theorem dX3_logged_86 : decode cX3_logged 86 = .ok (.getfield 219, 3) := by decide +kernel
theorem dX3_logged_89 : decode cX3_logged 89 = .ok (.iload_n 2, 1) := by decide +kernel
theorem dX3_logged_90 : decode cX3_logged 90 = .ok (.iaload, 1) := by decide +kernel
theorem dX3_logged_91 : decode cX3_logged 91 = .ok (.goto 4, 3) := by decide +kernel
theorem dX3_logged_94 : decode cX3_logged 94 = .ok (.iconst (-1), 1) := by decide +kernel
theorem dX3_logged_95 : decode cX3_logged 95 = .ok (.ireturn, 1) := by decide +kernel
theorem dX3_logged_96 : decode cX3_logged 96 = .ok (.bipush (-3), 2) := by decide +kernel
theorem dX3_logged_98 : decode cX3_logged 98 = .ok (.ireturn, 1) := by decide +kernel
theorem dX3_behind_0 : decode cX3_behind 0 = .ok (.aload_n 0, 1) := by decide +kernel
theorem dX3_behind_1 : decode cX3_behind 1 = .ok (.iload_n 1, 1) := by decide +kernel
theorem dX3_behind_2 : decode cX3_behind 2 = .ok (.invokevirtual 204, 3) := by decide +kernel
theorem dX3_behind_5 : decode cX3_behind 5 = .ok (.astore_n 3, 1) := by decide +kernel
theorem dX3_behind_6 : decode cX3_behind 6 = .ok (.aload_n 0, 1) := by decide +kernel
theorem dX3_behind_7 : decode cX3_behind 7 = .ok (.iload_n 2, 1) := by decide +kernel
theorem dX3_behind_8 : decode cX3_behind 8 = .ok (.invokevirtual 204, 3) := by decide +kernel
theorem dX3_behind_11 : decode cX3_behind 11 = .ok (.astore 4, 2) := by decide +kernel
theorem dX3_behind_13 : decode cX3_behind 13 = .ok (.aload_n 3, 1) := by decide +kernel
theorem dX3_behind_14 : decode cX3_behind 14 = .ok (.ifnull 13, 3) := by decide +kernel
theorem dX3_behind_17 : decode cX3_behind 17 = .ok (.aload 4, 2) := by decide +kernel
theorem dX3_behind_19 : decode cX3_behind 19 = .ok (.ifnull 8, 3) := by decide +kernel
theorem dX3_behind_22 : decode cX3_behind 22 = .ok (.iload_n 2, 1) := by decide +kernel
theorem dX3_behind_23 : decode cX3_behind 23 = .ok (.iload_n 1, 1) := by decide +kernel
theorem dX3_behind_24 : decode cX3_behind 24 = .ok (.if_icmp .lt 6, 3) := by decide +kernel
theorem dX3_behind_27 : decode cX3_behind 27 = .ok (.bipush (-2), 2) := by decide +kernel
theorem dX3_behind_29 : decode cX3_behind 29 = .ok (.ireturn, 1) := by decide +kernel
theorem dX3_behind_30 : decode cX3_behind 30 = .ok (.aload_n 3, 1) := by decide +kernel
theorem dX3_behind_31 : decode cX3_behind 31 = .ok (.iload_n 2, 1) := by decide +kernel
theorem dX3_behind_32 : decode cX3_behind 32 = .ok (.invokevirtual 220, 3) := by decide +kernel
theorem dX3_behind_35 : decode cX3_behind 35 = .ok (.ifCond .eq 7, 3) := by decide +kernel
theorem dX3_behind_38 : decode cX3_behind 38 = .ok (.iconst 1, 1) := by decide +kernel
theorem dX3_behind_39 : decode cX3_behind 39 = .ok (.goto 4, 3) := by decide +kernel
theorem dX3_behind_42 : decode cX3_behind 42 = .ok (.iconst 0, 1) := by decide +kernel
theorem dX3_behind_43 : decode cX3_behind 43 = .ok (.istore 5, 2) := by decide +kernel
theorem dX3_behind_45 : decode cX3_behind 45 = .ok (.aload_n 3, 1) := by decide +kernel
theorem dX3_behind_46 : decode cX3_behind 46 = .ok (.getfield 214, 3) := by decide +kernel
theorem dX3_behind_49 : decode cX3_behind 49 = .ok (.aload 4, 2) := by decide +kernel
theorem dX3_behind_51 : decode cX3_behind 51 = .ok (.getfield 214, 3) := by decide +kernel
theorem dX3_behind_54 : decode cX3_behind 54 = .ok (.iand, 1) := by decide +kernel
theorem dX3_behind_55 : decode cX3_behind 55 = .ok (.ifCond .eq 9, 3) := by decide +kernel
theorem dX3_behind_58 : decode cX3_behind 58 = .ok (.iload 5, 2) := by decide +kernel
theorem dX3_behind_60 : decode cX3_behind 60 = .ok (.iconst 2, 1) := by decide +kernel
theorem dX3_behind_61 : decode cX3_behind 61 = .ok (.ior, 1) := by decide +kernel
theorem dX3_behind_62 : decode cX3_behind 62 = .ok (.istore 5, 2) := by decide +kernel
theorem dX3_behind_64 : decode cX3_behind 64 = .ok (.aload_n 3, 1) := by decide +kernel
theorem dX3_behind_65 : decode cX3_behind 65 = .ok (.getfield 214, 3) := by decide +kernel
theorem dX3_behind_68 : decode cX3_behind 68 = .ok (.aload 4, 2) := by decide +kernel
theorem dX3_behind_70 : decode cX3_behind 70 = .ok (.getfield 213, 3) := by decide +kernel
theorem dX3_behind_73 : decode cX3_behind 73 = .ok (.iand, 1) := by decide +kernel
theorem dX3_behind_74 : decode cX3_behind 74 = .ok (.ifCond .eq 9, 3) := by decide +kernel
theorem dX3_behind_77 : decode cX3_behind 77 = .ok (.iload 5, 2) := by decide +kernel
theorem dX3_behind_79 : decode cX3_behind 79 = .ok (.iconst 4, 1) := by decide +kernel
theorem dX3_behind_80 : decode cX3_behind 80 = .ok (.ior, 1) := by decide +kernel
theorem dX3_behind_81 : decode cX3_behind 81 = .ok (.istore 5, 2) := by decide +kernel
theorem dX3_behind_83 : decode cX3_behind 83 = .ok (.iload 5, 2) := by decide +kernel
theorem dX3_behind_85 : decode cX3_behind 85 = .ok (.ireturn, 1) := by decide +kernel
theorem dX3_count_0 : decode cX3_count 0 = .ok (.iload_n 1, 1) := by decide +kernel
theorem dX3_count_1 : decode cX3_count 1 = .ok (.tableswitch 120 0 10 #[59, 64, 70, 76, 82, 87, 92, 97, 102, 107, 115], 59) := by decide +kernel
theorem dX3_count_60 : decode cX3_count 60 = .ok (.aload_n 0, 1) := by decide +kernel
theorem dX3_count_61 : decode cX3_count 61 = .ok (.getfield 69, 3) := by decide +kernel
theorem dX3_count_64 : decode cX3_count 64 = .ok (.ireturn, 1) := by decide +kernel
theorem dX3_count_65 : decode cX3_count 65 = .ok (.aload_n 0, 1) := by decide +kernel
theorem dX3_count_66 : decode cX3_count 66 = .ok (.iconst 1, 1) := by decide +kernel
theorem dX3_count_67 : decode cX3_count 67 = .ok (.invokevirtual 65, 3) := by decide +kernel
theorem dX3_count_70 : decode cX3_count 70 = .ok (.ireturn, 1) := by decide +kernel
theorem dX3_count_71 : decode cX3_count 71 = .ok (.aload_n 0, 1) := by decide +kernel
theorem dX3_count_72 : decode cX3_count 72 = .ok (.iconst 3, 1) := by decide +kernel
theorem dX3_count_73 : decode cX3_count 73 = .ok (.invokevirtual 65, 3) := by decide +kernel
theorem dX3_count_76 : decode cX3_count 76 = .ok (.ireturn, 1) := by decide +kernel
theorem dX3_count_77 : decode cX3_count 77 = .ok (.aload_n 0, 1) := by decide +kernel
theorem dX3_count_78 : decode cX3_count 78 = .ok (.iconst 2, 1) := by decide +kernel
theorem dX3_count_79 : decode cX3_count 79 = .ok (.invokevirtual 65, 3) := by decide +kernel
theorem dX3_count_82 : decode cX3_count 82 = .ok (.ireturn, 1) := by decide +kernel
theorem dX3_count_83 : decode cX3_count 83 = .ok (.aload_n 0, 1) := by decide +kernel
theorem dX3_count_84 : decode cX3_count 84 = .ok (.getfield 223, 3) := by decide +kernel
theorem dX3_count_87 : decode cX3_count 87 = .ok (.ireturn, 1) := by decide +kernel
theorem dX3_count_88 : decode cX3_count 88 = .ok (.aload_n 0, 1) := by decide +kernel
theorem dX3_count_89 : decode cX3_count 89 = .ok (.getfield 226, 3) := by decide +kernel
theorem dX3_count_92 : decode cX3_count 92 = .ok (.ireturn, 1) := by decide +kernel
theorem dX3_count_93 : decode cX3_count 93 = .ok (.aload_n 0, 1) := by decide +kernel
theorem dX3_count_94 : decode cX3_count 94 = .ok (.getfield 229, 3) := by decide +kernel
theorem dX3_count_97 : decode cX3_count 97 = .ok (.ireturn, 1) := by decide +kernel
theorem dX3_count_98 : decode cX3_count 98 = .ok (.aload_n 0, 1) := by decide +kernel
theorem dX3_count_99 : decode cX3_count 99 = .ok (.getfield 92, 3) := by decide +kernel
theorem dX3_count_102 : decode cX3_count 102 = .ok (.ireturn, 1) := by decide +kernel
theorem dX3_count_103 : decode cX3_count 103 = .ok (.aload_n 0, 1) := by decide +kernel
theorem dX3_count_104 : decode cX3_count 104 = .ok (.getfield 83, 3) := by decide +kernel
theorem dX3_count_107 : decode cX3_count 107 = .ok (.ireturn, 1) := by decide +kernel
theorem dX3_count_108 : decode cX3_count 108 = .ok (.aload_n 0, 1) := by decide +kernel
theorem dX3_count_109 : decode cX3_count 109 = .ok (.getfield 10, 3) := by decide +kernel
theorem dX3_count_112 : decode cX3_count 112 = .ok (.getfield 41, 3) := by decide +kernel
theorem dX3_count_115 : decode cX3_count 115 = .ok (.ireturn, 1) := by decide +kernel
theorem dX3_count_116 : decode cX3_count 116 = .ok (.aload_n 0, 1) := by decide +kernel
theorem dX3_count_117 : decode cX3_count 117 = .ok (.invokevirtual 232, 3) := by decide +kernel
theorem dX3_count_120 : decode cX3_count 120 = .ok (.ireturn, 1) := by decide +kernel
theorem dX3_count_121 : decode cX3_count 121 = .ok (.bipush (-3), 2) := by decide +kernel
theorem dX3_count_123 : decode cX3_count 123 = .ok (.ireturn, 1) := by decide +kernel
theorem dX3_startAnew_0 : decode cX3_startAnew 0 = .ok (.iconst 0, 1) := by decide +kernel
theorem dX3_startAnew_1 : decode cX3_startAnew 1 = .ok (.istore_n 1, 1) := by decide +kernel
theorem dX3_startAnew_2 : decode cX3_startAnew 2 = .ok (.iload_n 1, 1) := by decide +kernel
theorem dX3_startAnew_3 : decode cX3_startAnew 3 = .ok (.bipush 8, 2) := by decide +kernel
theorem dX3_startAnew_5 : decode cX3_startAnew 5 = .ok (.if_icmp .ge 23, 3) := by decide +kernel
theorem dX3_startAnew_8 : decode cX3_startAnew 8 = .ok (.aload_n 0, 1) := by decide +kernel
theorem dX3_startAnew_9 : decode cX3_startAnew 9 = .ok (.getfield 16, 3) := by decide +kernel
theorem dX3_startAnew_12 : decode cX3_startAnew 12 = .ok (.iload_n 1, 1) := by decide +kernel
theorem dX3_startAnew_13 : decode cX3_startAnew 13 = .ok (.iconst 0, 1) := by decide +kernel
theorem dX3_startAnew_14 : decode cX3_startAnew 14 = .ok (.iastore, 1) := by decide +kernel
theorem dX3_startAnew_15 : decode cX3_startAnew 15 = .ok (.aload_n 0, 1) := by decide +kernel
theorem dX3_startAnew_16 : decode cX3_startAnew 16 = .ok (.getfield 20, 3) := by decide +kernel
theorem dX3_startAnew_19 : decode cX3_startAnew 19 = .ok (.iload_n 1, 1) := by decide +kernel
theorem dX3_startAnew_20 : decode cX3_startAnew 20 = .ok (.iconst 0, 1) := by decide +kernel
theorem dX3_startAnew_21 : decode cX3_startAnew 21 = .ok (.iastore, 1) := by decide +kernel
theorem dX3_startAnew_22 : decode cX3_startAnew 22 = .ok (.iinc 1 1, 3) := by decide +kernel
theorem dX3_startAnew_25 : decode cX3_startAnew 25 = .ok (.goto (-23), 3) := by decide +kernel
theorem dX3_startAnew_28 : decode cX3_startAnew 28 = .ok (.aload_n 0, 1) := by decide +kernel
theorem dX3_startAnew_29 : decode cX3_startAnew 29 = .ok (.getfield 25, 3) := by decide +kernel
theorem dX3_startAnew_32 : decode cX3_startAnew 32 = .ok (.astore_n 1, 1) := by decide +kernel
theorem dX3_startAnew_33 : decode cX3_startAnew 33 = .ok (.aload_n 1, 1) := by decide +kernel
theorem dX3_startAnew_34 : decode cX3_startAnew 34 = .ok (.arraylength, 1) := by decide +kernel
theorem dX3_startAnew_35 : decode cX3_startAnew 35 = .ok (.istore_n 2, 1) := by decide +kernel
theorem dX3_startAnew_36 : decode cX3_startAnew 36 = .ok (.iconst 0, 1) := by decide +kernel
theorem dX3_startAnew_37 : decode cX3_startAnew 37 = .ok (.istore_n 3, 1) := by decide +kernel
theorem dX3_startAnew_38 : decode cX3_startAnew 38 = .ok (.iload_n 3, 1) := by decide +kernel
theorem dX3_startAnew_39 : decode cX3_startAnew 39 = .ok (.iload_n 2, 1) := by decide +kernel
theorem dX3_startAnew_40 : decode cX3_startAnew 40 = .ok (.if_icmp .ge 20, 3) := by decide +kernel
theorem dX3_startAnew_43 : decode cX3_startAnew 43 = .ok (.aload_n 1, 1) := by decide +kernel
theorem dX3_startAnew_44 : decode cX3_startAnew 44 = .ok (.iload_n 3, 1) := by decide +kernel
theorem dX3_startAnew_45 : decode cX3_startAnew 45 = .ok (.aaload, 1) := by decide +kernel
theorem dX3_startAnew_46 : decode cX3_startAnew 46 = .ok (.astore 4, 2) := by decide +kernel
theorem dX3_startAnew_48 : decode cX3_startAnew 48 = .ok (.aload 4, 2) := by decide +kernel
theorem dX3_startAnew_50 : decode cX3_startAnew 50 = .ok (.iconst 0, 1) := by decide +kernel
theorem dX3_startAnew_51 : decode cX3_startAnew 51 = .ok (.invokevirtual 235, 3) := by decide +kernel
theorem dX3_startAnew_54 : decode cX3_startAnew 54 = .ok (.iinc 3 1, 3) := by decide +kernel
theorem dX3_startAnew_57 : decode cX3_startAnew 57 = .ok (.goto (-19), 3) := by decide +kernel
theorem dX3_startAnew_60 : decode cX3_startAnew 60 = .ok (.aload_n 0, 1) := by decide +kernel
theorem dX3_startAnew_61 : decode cX3_startAnew 61 = .ok (.iconst 0, 1) := by decide +kernel
theorem dX3_startAnew_62 : decode cX3_startAnew 62 = .ok (.putfield 69, 3) := by decide +kernel
theorem dX3_startAnew_65 : decode cX3_startAnew 65 = .ok (.aload_n 0, 1) := by decide +kernel
theorem dX3_startAnew_66 : decode cX3_startAnew 66 = .ok (.iconst 3, 1) := by decide +kernel
theorem dX3_startAnew_67 : decode cX3_startAnew 67 = .ok (.putfield 83, 3) := by decide +kernel
theorem dX3_startAnew_70 : decode cX3_startAnew 70 = .ok (.aload_n 0, 1) := by decide +kernel
theorem dX3_startAnew_71 : decode cX3_startAnew 71 = .ok (.iconst 0, 1) := by decide +kernel
theorem dX3_startAnew_72 : decode cX3_startAnew 72 = .ok (.putfield 92, 3) := by decide +kernel
theorem dX3_startAnew_75 : decode cX3_startAnew 75 = .ok (.aload_n 0, 1) := by decide +kernel
theorem dX3_startAnew_76 : decode cX3_startAnew 76 = .ok (.iconst 0, 1) := by decide +kernel
theorem dX3_startAnew_77 : decode cX3_startAnew 77 = .ok (.putfield 159, 3) := by decide +kernel
theorem dX3_startAnew_80 : decode cX3_startAnew 80 = .ok (.aload_n 0, 1) := by decide +kernel
theorem dX3_startAnew_81 : decode cX3_startAnew 81 = .ok (.iconst 0, 1) := by decide +kernel
theorem dX3_startAnew_82 : decode cX3_startAnew 82 = .ok (.putfield 223, 3) := by decide +kernel
theorem dX3_startAnew_85 : decode cX3_startAnew 85 = .ok (.aload_n 0, 1) := by decide +kernel
theorem dX3_startAnew_86 : decode cX3_startAnew 86 = .ok (.iconst 0, 1) := by decide +kernel
theorem dX3_startAnew_87 : decode cX3_startAnew 87 = .ok (.putfield 226, 3) := by decide +kernel
theorem dX3_startAnew_90 : decode cX3_startAnew 90 = .ok (.aload_n 0, 1) := by decide +kernel
theorem dX3_startAnew_91 : decode cX3_startAnew 91 = .ok (.iconst 0, 1) := by decide +kernel
theorem dX3_startAnew_92 : decode cX3_startAnew 92 = .ok (.putfield 229, 3) := by decide +kernel
theorem dX3_startAnew_95 : decode cX3_startAnew 95 = .ok (.return_, 1) := by decide +kernel
theorem dX3_doClause_0 : decode cX3_doClause 0 = .ok (.aload_n 0, 1) := by decide +kernel
theorem dX3_doClause_1 : decode cX3_doClause 1 = .ok (.getfield 10, 3) := by decide +kernel
theorem dX3_doClause_4 : decode cX3_doClause 4 = .ok (.iload_n 1, 1) := by decide +kernel
theorem dX3_doClause_5 : decode cX3_doClause 5 = .ok (.iconst 0, 1) := by decide +kernel
theorem dX3_doClause_6 : decode cX3_doClause 6 = .ok (.invokevirtual 239, 3) := by decide +kernel
theorem dX3_doClause_9 : decode cX3_doClause 9 = .ok (.istore_n 2, 1) := by decide +kernel
theorem dX3_doClause_10 : decode cX3_doClause 10 = .ok (.aload_n 0, 1) := by decide +kernel
theorem dX3_doClause_11 : decode cX3_doClause 11 = .ok (.getfield 10, 3) := by decide +kernel
theorem dX3_doClause_14 : decode cX3_doClause 14 = .ok (.iload_n 1, 1) := by decide +kernel
theorem dX3_doClause_15 : decode cX3_doClause 15 = .ok (.iconst 1, 1) := by decide +kernel
theorem dX3_doClause_16 : decode cX3_doClause 16 = .ok (.invokevirtual 239, 3) := by decide +kernel
theorem dX3_doClause_19 : decode cX3_doClause 19 = .ok (.istore_n 3, 1) := by decide +kernel
theorem dX3_doClause_20 : decode cX3_doClause 20 = .ok (.aload_n 0, 1) := by decide +kernel
theorem dX3_doClause_21 : decode cX3_doClause 21 = .ok (.getfield 10, 3) := by decide +kernel
theorem dX3_doClause_24 : decode cX3_doClause 24 = .ok (.iload_n 1, 1) := by decide +kernel
theorem dX3_doClause_25 : decode cX3_doClause 25 = .ok (.iconst 2, 1) := by decide +kernel
theorem dX3_doClause_26 : decode cX3_doClause 26 = .ok (.invokevirtual 239, 3) := by decide +kernel
theorem dX3_doClause_29 : decode cX3_doClause 29 = .ok (.istore 4, 2) := by decide +kernel
theorem dX3_doClause_31 : decode cX3_doClause 31 = .ok (.aload_n 0, 1) := by decide +kernel
theorem dX3_doClause_32 : decode cX3_doClause 32 = .ok (.getfield 10, 3) := by decide +kernel
theorem dX3_doClause_35 : decode cX3_doClause 35 = .ok (.iload_n 1, 1) := by decide +kernel
theorem dX3_doClause_36 : decode cX3_doClause 36 = .ok (.invokevirtual 243, 3) := by decide +kernel
theorem dX3_doClause_39 : decode cX3_doClause 39 = .ok (.tableswitch 107 0 6 #[41, 48, 58, 67, 76, 86, 98], 41) := by decide +kernel
theorem dX3_doClause_80 : decode cX3_doClause 80 = .ok (.aload_n 0, 1) := by decide +kernel
theorem dX3_doClause_81 : decode cX3_doClause 81 = .ok (.invokevirtual 38, 3) := by decide +kernel
theorem dX3_doClause_84 : decode cX3_doClause 84 = .ok (.goto 62, 3) := by decide +kernel
theorem dX3_doClause_87 : decode cX3_doClause 87 = .ok (.aload_n 0, 1) := by decide +kernel
theorem dX3_doClause_88 : decode cX3_doClause 88 = .ok (.iload_n 2, 1) := by decide +kernel
theorem dX3_doClause_89 : decode cX3_doClause 89 = .ok (.iload_n 3, 1) := by decide +kernel
theorem dX3_doClause_90 : decode cX3_doClause 90 = .ok (.invokevirtual 246, 3) := by decide +kernel
theorem dX3_doClause_93 : decode cX3_doClause 93 = .ok (.pop, 1) := by decide +kernel
theorem dX3_doClause_94 : decode cX3_doClause 94 = .ok (.goto 52, 3) := by decide +kernel
theorem dX3_doClause_97 : decode cX3_doClause 97 = .ok (.aload_n 0, 1) := by decide +kernel
theorem dX3_doClause_98 : decode cX3_doClause 98 = .ok (.iload_n 2, 1) := by decide +kernel
theorem dX3_doClause_99 : decode cX3_doClause 99 = .ok (.invokevirtual 249, 3) := by decide +kernel
theorem dX3_doClause_102 : decode cX3_doClause 102 = .ok (.pop, 1) := by decide +kernel
theorem dX3_doClause_103 : decode cX3_doClause 103 = .ok (.goto 43, 3) := by decide +kernel
theorem dX3_doClause_106 : decode cX3_doClause 106 = .ok (.aload_n 0, 1) := by decide +kernel
theorem dX3_doClause_107 : decode cX3_doClause 107 = .ok (.iload_n 2, 1) := by decide +kernel
theorem dX3_doClause_108 : decode cX3_doClause 108 = .ok (.invokevirtual 252, 3) := by decide +kernel
theorem dX3_doClause_111 : decode cX3_doClause 111 = .ok (.pop, 1) := by decide +kernel
theorem dX3_doClause_112 : decode cX3_doClause 112 = .ok (.goto 34, 3) := by decide +kernel
theorem dX3_doClause_115 : decode cX3_doClause 115 = .ok (.aload_n 0, 1) := by decide +kernel
theorem dX3_doClause_116 : decode cX3_doClause 116 = .ok (.iload_n 2, 1) := by decide +kernel
theorem dX3_doClause_117 : decode cX3_doClause 117 = .ok (.iload_n 3, 1) := by decide +kernel
theorem dX3_doClause_118 : decode cX3_doClause 118 = .ok (.invokevirtual 255, 3) := by decide +kernel
theorem dX3_doClause_121 : decode cX3_doClause 121 = .ok (.pop, 1) := by decide +kernel
theorem dX3_doClause_122 : decode cX3_doClause 122 = .ok (.goto 24, 3) := by decide +kernel
theorem dX3_doClause_125 : decode cX3_doClause 125 = .ok (.aload_n 0, 1) := by decide +kernel
theorem dX3_doClause_126 : decode cX3_doClause 126 = .ok (.iload_n 2, 1) := by decide +kernel
theorem dX3_doClause_127 : decode cX3_doClause 127 = .ok (.iload_n 3, 1) := by decide +kernel
theorem dX3_doClause_128 : decode cX3_doClause 128 = .ok (.iload 4, 2) := by decide +kernel
theorem dX3_doClause_130 : decode cX3_doClause 130 = .ok (.invokevirtual 258, 3) := by decide +kernel
theorem dX3_doClause_133 : decode cX3_doClause 133 = .ok (.pop, 1) := by decide +kernel
theorem dX3_doClause_134 : decode cX3_doClause 134 = .ok (.goto 12, 3) := by decide +kernel
theorem dX3_doClause_137 : decode cX3_doClause 137 = .ok (.aload_n 0, 1) := by decide +kernel
theorem dX3_doClause_138 : decode cX3_doClause 138 = .ok (.iload_n 2, 1) := by decide +kernel
theorem dX3_doClause_139 : decode cX3_doClause 139 = .ok (.invokevirtual 262, 3) := by decide +kernel
theorem dX3_doClause_142 : decode cX3_doClause 142 = .ok (.pop, 1) := by decide +kernel
theorem dX3_doClause_143 : decode cX3_doClause 143 = .ok (.goto 3, 3) := by decide +kernel
theorem dX3_doClause_146 : decode cX3_doClause 146 = .ok (.return_, 1) := by decide +kernel
theorem dX3_isItem_0 : decode cX3_isItem 0 = .ok (.iload_n 0, 1) := by decide +kernel
theorem dX3_isItem_1 : decode cX3_isItem 1 = .ok (.ifCond .lt 13, 3) := by decide +kernel
theorem dX3_isItem_4 : decode cX3_isItem 4 = .ok (.iload_n 0, 1) := by decide +kernel
theorem dX3_isItem_5 : decode cX3_isItem 5 = .ok (.bipush 8, 2) := by decide +kernel
theorem dX3_isItem_7 : decode cX3_isItem 7 = .ok (.if_icmp .ge 7, 3) := by decide +kernel
theorem dX3_isItem_10 : decode cX3_isItem 10 = .ok (.iconst 1, 1) := by decide +kernel
theorem dX3_isItem_11 : decode cX3_isItem 11 = .ok (.goto 4, 3) := by decide +kernel
theorem dX3_isItem_14 : decode cX3_isItem 14 = .ok (.iconst 0, 1) := by decide +kernel
theorem dX3_isItem_15 : decode cX3_isItem 15 = .ok (.ireturn, 1) := by decide +kernel
theorem dX3_isDeal_0 : decode cX3_isDeal 0 = .ok (.iload_n 0, 1) := by decide +kernel
theorem dX3_isDeal_1 : decode cX3_isDeal 1 = .ok (.ifCond .lt 13, 3) := by decide +kernel
theorem dX3_isDeal_4 : decode cX3_isDeal 4 = .ok (.iload_n 0, 1) := by decide +kernel
theorem dX3_isDeal_5 : decode cX3_isDeal 5 = .ok (.bipush 6, 2) := by decide +kernel
theorem dX3_isDeal_7 : decode cX3_isDeal 7 = .ok (.if_icmp .ge 7, 3) := by decide +kernel
theorem dX3_isDeal_10 : decode cX3_isDeal 10 = .ok (.iconst 1, 1) := by decide +kernel
theorem dX3_isDeal_11 : decode cX3_isDeal 11 = .ok (.goto 4, 3) := by decide +kernel
theorem dX3_isDeal_14 : decode cX3_isDeal 14 = .ok (.iconst 0, 1) := by decide +kernel
theorem dX3_isDeal_15 : decode cX3_isDeal 15 = .ok (.ireturn, 1) := by decide +kernel
theorem dX3_isValidator_0 : decode cX3_isValidator 0 = .ok (.iload_n 0, 1) := by decide +kernel
theorem dX3_isValidator_1 : decode cX3_isValidator 1 = .ok (.ifCond .lt 12, 3) := by decide +kernel
theorem dX3_isValidator_4 : decode cX3_isValidator 4 = .ok (.iload_n 0, 1) := by decide +kernel
theorem dX3_isValidator_5 : decode cX3_isValidator 5 = .ok (.iconst 2, 1) := by decide +kernel
theorem dX3_isValidator_6 : decode cX3_isValidator 6 = .ok (.if_icmp .ge 7, 3) := by decide +kernel
theorem dX3_isValidator_9 : decode cX3_isValidator 9 = .ok (.iconst 1, 1) := by decide +kernel
theorem dX3_isValidator_10 : decode cX3_isValidator 10 = .ok (.goto 4, 3) := by decide +kernel
theorem dX3_isValidator_13 : decode cX3_isValidator 13 = .ok (.iconst 0, 1) := by decide +kernel
theorem dX3_isValidator_14 : decode cX3_isValidator 14 = .ok (.ireturn, 1) := by decide +kernel
theorem dX3_isValue_0 : decode cX3_isValue 0 = .ok (.iload_n 0, 1) := by decide +kernel
theorem dX3_isValue_1 : decode cX3_isValue 1 = .ok (.ifCond .lt 14, 3) := by decide +kernel
theorem dX3_isValue_4 : decode cX3_isValue 4 = .ok (.iload_n 0, 1) := by decide +kernel
theorem dX3_isValue_5 : decode cX3_isValue 5 = .ok (.sipush 9999, 3) := by decide +kernel
theorem dX3_isValue_8 : decode cX3_isValue 8 = .ok (.if_icmp .gt 7, 3) := by decide +kernel
theorem dX3_isValue_11 : decode cX3_isValue 11 = .ok (.iconst 1, 1) := by decide +kernel
theorem dX3_isValue_12 : decode cX3_isValue 12 = .ok (.goto 4, 3) := by decide +kernel
theorem dX3_isValue_15 : decode cX3_isValue 15 = .ok (.iconst 0, 1) := by decide +kernel
theorem dX3_isValue_16 : decode cX3_isValue 16 = .ok (.ireturn, 1) := by decide +kernel
theorem dX3_bit_0 : decode cX3_bit 0 = .ok (.iconst 1, 1) := by decide +kernel
theorem dX3_bit_1 : decode cX3_bit 1 = .ok (.iload_n 0, 1) := by decide +kernel
theorem dX3_bit_2 : decode cX3_bit 2 = .ok (.ishl, 1) := by decide +kernel
theorem dX3_bit_3 : decode cX3_bit 3 = .ok (.ireturn, 1) := by decide +kernel
theorem dX3_has_0 : decode cX3_has 0 = .ok (.iload_n 0, 1) := by decide +kernel
theorem dX3_has_1 : decode cX3_has 1 = .ok (.iload_n 1, 1) := by decide +kernel
theorem dX3_has_2 : decode cX3_has 2 = .ok (.invokestatic 128, 3) := by decide +kernel
theorem dX3_has_5 : decode cX3_has 5 = .ok (.iand, 1) := by decide +kernel
theorem dX3_has_6 : decode cX3_has 6 = .ok (.ifCond .eq 7, 3) := by decide +kernel
theorem dX3_has_9 : decode cX3_has 9 = .ok (.iconst 1, 1) := by decide +kernel
theorem dX3_has_10 : decode cX3_has 10 = .ok (.goto 4, 3) := by decide +kernel
theorem dX3_has_13 : decode cX3_has 13 = .ok (.iconst 0, 1) := by decide +kernel
theorem dX3_has_14 : decode cX3_has 14 = .ok (.ireturn, 1) := by decide +kernel
theorem dX3_howMany_0 : decode cX3_howMany 0 = .ok (.iconst 0, 1) := by decide +kernel
theorem dX3_howMany_1 : decode cX3_howMany 1 = .ok (.istore_n 2, 1) := by decide +kernel
theorem dX3_howMany_2 : decode cX3_howMany 2 = .ok (.aload_n 0, 1) := by decide +kernel
theorem dX3_howMany_3 : decode cX3_howMany 3 = .ok (.getfield 25, 3) := by decide +kernel
theorem dX3_howMany_6 : decode cX3_howMany 6 = .ok (.astore_n 3, 1) := by decide +kernel
theorem dX3_howMany_7 : decode cX3_howMany 7 = .ok (.aload_n 3, 1) := by decide +kernel
theorem dX3_howMany_8 : decode cX3_howMany 8 = .ok (.arraylength, 1) := by decide +kernel
theorem dX3_howMany_9 : decode cX3_howMany 9 = .ok (.istore 4, 2) := by decide +kernel
theorem dX3_howMany_11 : decode cX3_howMany 11 = .ok (.iconst 0, 1) := by decide +kernel
theorem dX3_howMany_12 : decode cX3_howMany 12 = .ok (.istore 5, 2) := by decide +kernel
theorem dX3_howMany_14 : decode cX3_howMany 14 = .ok (.iload 5, 2) := by decide +kernel
theorem dX3_howMany_16 : decode cX3_howMany 16 = .ok (.iload 4, 2) := by decide +kernel
theorem dX3_howMany_18 : decode cX3_howMany 18 = .ok (.if_icmp .ge 27, 3) := by decide +kernel
theorem dX3_howMany_21 : decode cX3_howMany 21 = .ok (.aload_n 3, 1) := by decide +kernel
theorem dX3_howMany_22 : decode cX3_howMany 22 = .ok (.iload 5, 2) := by decide +kernel
theorem dX3_howMany_24 : decode cX3_howMany 24 = .ok (.aaload, 1) := by decide +kernel
theorem dX3_howMany_25 : decode cX3_howMany 25 = .ok (.astore 6, 2) := by decide +kernel
theorem dX3_howMany_27 : decode cX3_howMany 27 = .ok (.aload 6, 2) := by decide +kernel
theorem dX3_howMany_29 : decode cX3_howMany 29 = .ok (.getfield 89, 3) := by decide +kernel
theorem dX3_howMany_32 : decode cX3_howMany 32 = .ok (.iload_n 1, 1) := by decide +kernel
theorem dX3_howMany_33 : decode cX3_howMany 33 = .ok (.if_icmp .ne 6, 3) := by decide +kernel
theorem dX3_howMany_36 : decode cX3_howMany 36 = .ok (.iinc 2 1, 3) := by decide +kernel
theorem dX3_howMany_39 : decode cX3_howMany 39 = .ok (.iinc 5 1, 3) := by decide +kernel
theorem dX3_howMany_42 : decode cX3_howMany 42 = .ok (.goto (-28), 3) := by decide +kernel
theorem dX3_howMany_45 : decode cX3_howMany 45 = .ok (.iload_n 2, 1) := by decide +kernel
theorem dX3_howMany_46 : decode cX3_howMany 46 = .ok (.ireturn, 1) := by decide +kernel
theorem dX3_allValues_0 : decode cX3_allValues 0 = .ok (.iconst 0, 1) := by decide +kernel
theorem dX3_allValues_1 : decode cX3_allValues 1 = .ok (.istore_n 1, 1) := by decide +kernel
theorem dX3_allValues_2 : decode cX3_allValues 2 = .ok (.aload_n 0, 1) := by decide +kernel
theorem dX3_allValues_3 : decode cX3_allValues 3 = .ok (.getfield 16, 3) := by decide +kernel
theorem dX3_allValues_6 : decode cX3_allValues 6 = .ok (.astore_n 2, 1) := by decide +kernel
theorem dX3_allValues_7 : decode cX3_allValues 7 = .ok (.aload_n 2, 1) := by decide +kernel
theorem dX3_allValues_8 : decode cX3_allValues 8 = .ok (.arraylength, 1) := by decide +kernel
theorem dX3_allValues_9 : decode cX3_allValues 9 = .ok (.istore_n 3, 1) := by decide +kernel
theorem dX3_allValues_10 : decode cX3_allValues 10 = .ok (.iconst 0, 1) := by decide +kernel
theorem dX3_allValues_11 : decode cX3_allValues 11 = .ok (.istore 4, 2) := by decide +kernel
theorem dX3_allValues_13 : decode cX3_allValues 13 = .ok (.iload 4, 2) := by decide +kernel
theorem dX3_allValues_15 : decode cX3_allValues 15 = .ok (.iload_n 3, 1) := by decide +kernel
theorem dX3_allValues_16 : decode cX3_allValues 16 = .ok (.if_icmp .ge 20, 3) := by decide +kernel
theorem dX3_allValues_19 : decode cX3_allValues 19 = .ok (.aload_n 2, 1) := by decide +kernel
theorem dX3_allValues_20 : decode cX3_allValues 20 = .ok (.iload 4, 2) := by decide +kernel
theorem dX3_allValues_22 : decode cX3_allValues 22 = .ok (.iaload, 1) := by decide +kernel
theorem dX3_allValues_23 : decode cX3_allValues 23 = .ok (.istore 5, 2) := by decide +kernel
theorem dX3_allValues_25 : decode cX3_allValues 25 = .ok (.iload_n 1, 1) := by decide +kernel
theorem dX3_allValues_26 : decode cX3_allValues 26 = .ok (.iload 5, 2) := by decide +kernel
theorem dX3_allValues_28 : decode cX3_allValues 28 = .ok (.iadd, 1) := by decide +kernel
theorem dX3_allValues_29 : decode cX3_allValues 29 = .ok (.istore_n 1, 1) := by decide +kernel
theorem dX3_allValues_30 : decode cX3_allValues 30 = .ok (.iinc 4 1, 3) := by decide +kernel
theorem dX3_allValues_33 : decode cX3_allValues 33 = .ok (.goto (-20), 3) := by decide +kernel
theorem dX3_allValues_36 : decode cX3_allValues 36 = .ok (.iload_n 1, 1) := by decide +kernel
theorem dX3_allValues_37 : decode cX3_allValues 37 = .ok (.ireturn, 1) := by decide +kernel
theorem dX3_isStubborn_0 : decode cX3_isStubborn 0 = .ok (.aload_n 1, 1) := by decide +kernel
theorem dX3_isStubborn_1 : decode cX3_isStubborn 1 = .ok (.getfield 106, 3) := by decide +kernel
theorem dX3_isStubborn_4 : decode cX3_isStubborn 4 = .ok (.aload_n 0, 1) := by decide +kernel
theorem dX3_isStubborn_5 : decode cX3_isStubborn 5 = .ok (.getfield 83, 3) := by decide +kernel
theorem dX3_isStubborn_8 : decode cX3_isStubborn 8 = .ok (.if_icmp .lt 7, 3) := by decide +kernel
theorem dX3_isStubborn_11 : decode cX3_isStubborn 11 = .ok (.iconst 1, 1) := by decide +kernel
theorem dX3_isStubborn_12 : decode cX3_isStubborn 12 = .ok (.goto 4, 3) := by decide +kernel
theorem dX3_isStubborn_15 : decode cX3_isStubborn 15 = .ok (.iconst 0, 1) := by decide +kernel
theorem dX3_isStubborn_16 : decode cX3_isStubborn 16 = .ok (.ireturn, 1) := by decide +kernel
theorem dX3_staleOf_0 : decode cX3_staleOf 0 = .ok (.iconst 0, 1) := by decide +kernel
theorem dX3_staleOf_1 : decode cX3_staleOf 1 = .ok (.istore_n 2, 1) := by decide +kernel
theorem dX3_staleOf_2 : decode cX3_staleOf 2 = .ok (.iconst 0, 1) := by decide +kernel
theorem dX3_staleOf_3 : decode cX3_staleOf 3 = .ok (.istore_n 3, 1) := by decide +kernel
theorem dX3_staleOf_4 : decode cX3_staleOf 4 = .ok (.iload_n 3, 1) := by decide +kernel
theorem dX3_staleOf_5 : decode cX3_staleOf 5 = .ok (.bipush 8, 2) := by decide +kernel
theorem dX3_staleOf_7 : decode cX3_staleOf 7 = .ok (.if_icmp .ge 42, 3) := by decide +kernel
theorem dX3_staleOf_10 : decode cX3_staleOf 10 = .ok (.aload_n 1, 1) := by decide +kernel
theorem dX3_staleOf_11 : decode cX3_staleOf 11 = .ok (.getfield 119, 3) := by decide +kernel
theorem dX3_staleOf_14 : decode cX3_staleOf 14 = .ok (.iload_n 3, 1) := by decide +kernel
theorem dX3_staleOf_15 : decode cX3_staleOf 15 = .ok (.invokestatic 112, 3) := by decide +kernel
theorem dX3_staleOf_18 : decode cX3_staleOf 18 = .ok (.ifCond .eq 25, 3) := by decide +kernel
theorem dX3_staleOf_21 : decode cX3_staleOf 21 = .ok (.aload_n 0, 1) := by decide +kernel
theorem dX3_staleOf_22 : decode cX3_staleOf 22 = .ok (.getfield 20, 3) := by decide +kernel
theorem dX3_staleOf_25 : decode cX3_staleOf 25 = .ok (.iload_n 3, 1) := by decide +kernel
theorem dX3_staleOf_26 : decode cX3_staleOf 26 = .ok (.iaload, 1) := by decide +kernel
theorem dX3_staleOf_27 : decode cX3_staleOf 27 = .ok (.aload_n 1, 1) := by decide +kernel
theorem dX3_staleOf_28 : decode cX3_staleOf 28 = .ok (.getfield 201, 3) := by decide +kernel
theorem dX3_staleOf_31 : decode cX3_staleOf 31 = .ok (.iload_n 3, 1) := by decide +kernel
theorem dX3_staleOf_32 : decode cX3_staleOf 32 = .ok (.iaload, 1) := by decide +kernel
theorem dX3_staleOf_33 : decode cX3_staleOf 33 = .ok (.if_icmp .eq 10, 3) := by decide +kernel
theorem dX3_staleOf_36 : decode cX3_staleOf 36 = .ok (.iload_n 2, 1) := by decide +kernel
theorem dX3_staleOf_37 : decode cX3_staleOf 37 = .ok (.iload_n 3, 1) := by decide +kernel
theorem dX3_staleOf_38 : decode cX3_staleOf 38 = .ok (.invokestatic 128, 3) := by decide +kernel
theorem dX3_staleOf_41 : decode cX3_staleOf 41 = .ok (.ior, 1) := by decide +kernel
theorem dX3_staleOf_42 : decode cX3_staleOf 42 = .ok (.istore_n 2, 1) := by decide +kernel
theorem dX3_staleOf_43 : decode cX3_staleOf 43 = .ok (.iinc 3 1, 3) := by decide +kernel
theorem dX3_staleOf_46 : decode cX3_staleOf 46 = .ok (.goto (-42), 3) := by decide +kernel
theorem dX3_staleOf_49 : decode cX3_staleOf 49 = .ok (.iload_n 2, 1) := by decide +kernel
theorem dX3_staleOf_50 : decode cX3_staleOf 50 = .ok (.ireturn, 1) := by decide +kernel
theorem dX3_crossedOf_0 : decode cX3_crossedOf 0 = .ok (.iconst 0, 1) := by decide +kernel
theorem dX3_crossedOf_1 : decode cX3_crossedOf 1 = .ok (.istore_n 2, 1) := by decide +kernel
theorem dX3_crossedOf_2 : decode cX3_crossedOf 2 = .ok (.iconst 0, 1) := by decide +kernel
theorem dX3_crossedOf_3 : decode cX3_crossedOf 3 = .ok (.istore_n 3, 1) := by decide +kernel
theorem dX3_crossedOf_4 : decode cX3_crossedOf 4 = .ok (.iload_n 3, 1) := by decide +kernel
theorem dX3_crossedOf_5 : decode cX3_crossedOf 5 = .ok (.bipush 8, 2) := by decide +kernel
theorem dX3_crossedOf_7 : decode cX3_crossedOf 7 = .ok (.if_icmp .ge 40, 3) := by decide +kernel
theorem dX3_crossedOf_10 : decode cX3_crossedOf 10 = .ok (.aload_n 1, 1) := by decide +kernel
theorem dX3_crossedOf_11 : decode cX3_crossedOf 11 = .ok (.getfield 119, 3) := by decide +kernel
theorem dX3_crossedOf_14 : decode cX3_crossedOf 14 = .ok (.iload_n 3, 1) := by decide +kernel
theorem dX3_crossedOf_15 : decode cX3_crossedOf 15 = .ok (.invokestatic 112, 3) := by decide +kernel
theorem dX3_crossedOf_18 : decode cX3_crossedOf 18 = .ok (.ifCond .eq 23, 3) := by decide +kernel
theorem dX3_crossedOf_21 : decode cX3_crossedOf 21 = .ok (.aload_n 0, 1) := by decide +kernel
theorem dX3_crossedOf_22 : decode cX3_crossedOf 22 = .ok (.getfield 20, 3) := by decide +kernel
theorem dX3_crossedOf_25 : decode cX3_crossedOf 25 = .ok (.iload_n 3, 1) := by decide +kernel
theorem dX3_crossedOf_26 : decode cX3_crossedOf 26 = .ok (.iaload, 1) := by decide +kernel
theorem dX3_crossedOf_27 : decode cX3_crossedOf 27 = .ok (.aload_n 1, 1) := by decide +kernel
theorem dX3_crossedOf_28 : decode cX3_crossedOf 28 = .ok (.getfield 191, 3) := by decide +kernel
theorem dX3_crossedOf_31 : decode cX3_crossedOf 31 = .ok (.if_icmp .le 10, 3) := by decide +kernel
theorem dX3_crossedOf_34 : decode cX3_crossedOf 34 = .ok (.iload_n 2, 1) := by decide +kernel
theorem dX3_crossedOf_35 : decode cX3_crossedOf 35 = .ok (.iload_n 3, 1) := by decide +kernel
theorem dX3_crossedOf_36 : decode cX3_crossedOf 36 = .ok (.invokestatic 128, 3) := by decide +kernel
theorem dX3_crossedOf_39 : decode cX3_crossedOf 39 = .ok (.ior, 1) := by decide +kernel
theorem dX3_crossedOf_40 : decode cX3_crossedOf 40 = .ok (.istore_n 2, 1) := by decide +kernel
theorem dX3_crossedOf_41 : decode cX3_crossedOf 41 = .ok (.iinc 3 1, 3) := by decide +kernel
theorem dX3_crossedOf_44 : decode cX3_crossedOf 44 = .ok (.goto (-40), 3) := by decide +kernel
theorem dX3_crossedOf_47 : decode cX3_crossedOf 47 = .ok (.iload_n 2, 1) := by decide +kernel
theorem dX3_crossedOf_48 : decode cX3_crossedOf 48 = .ok (.ireturn, 1) := by decide +kernel
theorem dX3_rivalsOf_0 : decode cX3_rivalsOf 0 = .ok (.iconst 0, 1) := by decide +kernel
theorem dX3_rivalsOf_1 : decode cX3_rivalsOf 1 = .ok (.istore_n 2, 1) := by decide +kernel
theorem dX3_rivalsOf_2 : decode cX3_rivalsOf 2 = .ok (.aload_n 0, 1) := by decide +kernel
theorem dX3_rivalsOf_3 : decode cX3_rivalsOf 3 = .ok (.getfield 25, 3) := by decide +kernel
theorem dX3_rivalsOf_6 : decode cX3_rivalsOf 6 = .ok (.astore_n 3, 1) := by decide +kernel
theorem dX3_rivalsOf_7 : decode cX3_rivalsOf 7 = .ok (.aload_n 3, 1) := by decide +kernel
theorem dX3_rivalsOf_8 : decode cX3_rivalsOf 8 = .ok (.arraylength, 1) := by decide +kernel
theorem dX3_rivalsOf_9 : decode cX3_rivalsOf 9 = .ok (.istore 4, 2) := by decide +kernel
theorem dX3_rivalsOf_11 : decode cX3_rivalsOf 11 = .ok (.iconst 0, 1) := by decide +kernel
theorem dX3_rivalsOf_12 : decode cX3_rivalsOf 12 = .ok (.istore 5, 2) := by decide +kernel
theorem dX3_rivalsOf_14 : decode cX3_rivalsOf 14 = .ok (.iload 5, 2) := by decide +kernel
theorem dX3_rivalsOf_16 : decode cX3_rivalsOf 16 = .ok (.iload 4, 2) := by decide +kernel
theorem dX3_rivalsOf_18 : decode cX3_rivalsOf 18 = .ok (.if_icmp .ge 60, 3) := by decide +kernel
theorem dX3_rivalsOf_21 : decode cX3_rivalsOf 21 = .ok (.aload_n 3, 1) := by decide +kernel
theorem dX3_rivalsOf_22 : decode cX3_rivalsOf 22 = .ok (.iload 5, 2) := by decide +kernel
theorem dX3_rivalsOf_24 : decode cX3_rivalsOf 24 = .ok (.aaload, 1) := by decide +kernel
theorem dX3_rivalsOf_25 : decode cX3_rivalsOf 25 = .ok (.astore 6, 2) := by decide +kernel
theorem dX3_rivalsOf_27 : decode cX3_rivalsOf 27 = .ok (.aload 6, 2) := by decide +kernel
theorem dX3_rivalsOf_29 : decode cX3_rivalsOf 29 = .ok (.getfield 265, 3) := by decide +kernel
theorem dX3_rivalsOf_32 : decode cX3_rivalsOf 32 = .ok (.aload_n 1, 1) := by decide +kernel
theorem dX3_rivalsOf_33 : decode cX3_rivalsOf 33 = .ok (.getfield 265, 3) := by decide +kernel
theorem dX3_rivalsOf_36 : decode cX3_rivalsOf 36 = .ok (.if_icmp .eq 36, 3) := by decide +kernel
theorem dX3_rivalsOf_39 : decode cX3_rivalsOf 39 = .ok (.aload 6, 2) := by decide +kernel
theorem dX3_rivalsOf_41 : decode cX3_rivalsOf 41 = .ok (.getfield 89, 3) := by decide +kernel
theorem dX3_rivalsOf_44 : decode cX3_rivalsOf 44 = .ok (.iconst 1, 1) := by decide +kernel
theorem dX3_rivalsOf_45 : decode cX3_rivalsOf 45 = .ok (.if_icmp .ne 27, 3) := by decide +kernel
theorem dX3_rivalsOf_48 : decode cX3_rivalsOf 48 = .ok (.aload 6, 2) := by decide +kernel
theorem dX3_rivalsOf_50 : decode cX3_rivalsOf 50 = .ok (.getfield 119, 3) := by decide +kernel
theorem dX3_rivalsOf_53 : decode cX3_rivalsOf 53 = .ok (.aload_n 1, 1) := by decide +kernel
theorem dX3_rivalsOf_54 : decode cX3_rivalsOf 54 = .ok (.getfield 109, 3) := by decide +kernel
theorem dX3_rivalsOf_57 : decode cX3_rivalsOf 57 = .ok (.iand, 1) := by decide +kernel
theorem dX3_rivalsOf_58 : decode cX3_rivalsOf 58 = .ok (.ifCond .eq 14, 3) := by decide +kernel
theorem dX3_rivalsOf_61 : decode cX3_rivalsOf 61 = .ok (.iload_n 2, 1) := by decide +kernel
theorem dX3_rivalsOf_62 : decode cX3_rivalsOf 62 = .ok (.aload 6, 2) := by decide +kernel
theorem dX3_rivalsOf_64 : decode cX3_rivalsOf 64 = .ok (.getfield 265, 3) := by decide +kernel
theorem dX3_rivalsOf_67 : decode cX3_rivalsOf 67 = .ok (.invokestatic 128, 3) := by decide +kernel
theorem dX3_rivalsOf_70 : decode cX3_rivalsOf 70 = .ok (.ior, 1) := by decide +kernel
theorem dX3_rivalsOf_71 : decode cX3_rivalsOf 71 = .ok (.istore_n 2, 1) := by decide +kernel
theorem dX3_rivalsOf_72 : decode cX3_rivalsOf 72 = .ok (.iinc 5 1, 3) := by decide +kernel
theorem dX3_rivalsOf_75 : decode cX3_rivalsOf 75 = .ok (.goto (-61), 3) := by decide +kernel
theorem dX3_rivalsOf_78 : decode cX3_rivalsOf 78 = .ok (.iload_n 2, 1) := by decide +kernel
theorem dX3_rivalsOf_79 : decode cX3_rivalsOf 79 = .ok (.ireturn, 1) := by decide +kernel
theorem dX3_foretell_0 : decode cX3_foretell 0 = .ok (.iload_n 2, 1) := by decide +kernel
theorem dX3_foretell_1 : decode cX3_foretell 1 = .ok (.ifCond .lt 8, 3) := by decide +kernel
theorem dX3_foretell_4 : decode cX3_foretell 4 = .ok (.iload_n 2, 1) := by decide +kernel
theorem dX3_foretell_5 : decode cX3_foretell 5 = .ok (.iconst 2, 1) := by decide +kernel
theorem dX3_foretell_6 : decode cX3_foretell 6 = .ok (.if_icmp .le 6, 3) := by decide +kernel
theorem dX3_foretell_9 : decode cX3_foretell 9 = .ok (.bipush (-3), 2) := by decide +kernel
theorem dX3_foretell_11 : decode cX3_foretell 11 = .ok (.ireturn, 1) := by decide +kernel
theorem dX3_foretell_12 : decode cX3_foretell 12 = .ok (.aload_n 1, 1) := by decide +kernel
theorem dX3_foretell_13 : decode cX3_foretell 13 = .ok (.getfield 89, 3) := by decide +kernel
theorem dX3_foretell_16 : decode cX3_foretell 16 = .ok (.iconst 1, 1) := by decide +kernel
theorem dX3_foretell_17 : decode cX3_foretell 17 = .ok (.if_icmp .ne 11, 3) := by decide +kernel
theorem dX3_foretell_20 : decode cX3_foretell 20 = .ok (.aload_n 0, 1) := by decide +kernel
theorem dX3_foretell_21 : decode cX3_foretell 21 = .ok (.iconst 3, 1) := by decide +kernel
theorem dX3_foretell_22 : decode cX3_foretell 22 = .ok (.invokevirtual 65, 3) := by decide +kernel
theorem dX3_foretell_25 : decode cX3_foretell 25 = .ok (.ifCond .le 6, 3) := by decide +kernel
theorem dX3_foretell_28 : decode cX3_foretell 28 = .ok (.bipush (-4), 2) := by decide +kernel
theorem dX3_foretell_30 : decode cX3_foretell 30 = .ok (.ireturn, 1) := by decide +kernel
theorem dX3_foretell_31 : decode cX3_foretell 31 = .ok (.aload_n 0, 1) := by decide +kernel
theorem dX3_foretell_32 : decode cX3_foretell 32 = .ok (.getfield 69, 3) := by decide +kernel
theorem dX3_foretell_35 : decode cX3_foretell 35 = .ok (.sipush 512, 3) := by decide +kernel
theorem dX3_foretell_38 : decode cX3_foretell 38 = .ok (.if_icmp .lt 6, 3) := by decide +kernel
theorem dX3_foretell_41 : decode cX3_foretell 41 = .ok (.bipush (-5), 2) := by decide +kernel
theorem dX3_foretell_43 : decode cX3_foretell 43 = .ok (.ireturn, 1) := by decide +kernel
theorem dX3_foretell_44 : decode cX3_foretell 44 = .ok (.aload_n 0, 1) := by decide +kernel
theorem dX3_foretell_45 : decode cX3_foretell 45 = .ok (.aload_n 1, 1) := by decide +kernel
theorem dX3_foretell_46 : decode cX3_foretell 46 = .ok (.invokevirtual 156, 3) := by decide +kernel
theorem dX3_foretell_49 : decode cX3_foretell 49 = .ok (.ifCond .eq 6, 3) := by decide +kernel
theorem dX3_foretell_52 : decode cX3_foretell 52 = .ok (.bipush (-11), 2) := by decide +kernel
theorem dX3_foretell_54 : decode cX3_foretell 54 = .ok (.ireturn, 1) := by decide +kernel
theorem dX3_foretell_55 : decode cX3_foretell 55 = .ok (.iload_n 2, 1) := by decide +kernel
theorem dX3_foretell_56 : decode cX3_foretell 56 = .ok (.ifCond .ne 14, 3) := by decide +kernel
theorem dX3_foretell_59 : decode cX3_foretell 59 = .ok (.aload_n 0, 1) := by decide +kernel
theorem dX3_foretell_60 : decode cX3_foretell 60 = .ok (.aload_n 1, 1) := by decide +kernel
theorem dX3_foretell_61 : decode cX3_foretell 61 = .ok (.invokevirtual 198, 3) := by decide +kernel
theorem dX3_foretell_64 : decode cX3_foretell 64 = .ok (.ifCond .eq 6, 3) := by decide +kernel
theorem dX3_foretell_67 : decode cX3_foretell 67 = .ok (.bipush (-12), 2) := by decide +kernel
theorem dX3_foretell_69 : decode cX3_foretell 69 = .ok (.ireturn, 1) := by decide +kernel
theorem dX3_foretell_70 : decode cX3_foretell 70 = .ok (.iload_n 2, 1) := by decide +kernel
theorem dX3_foretell_71 : decode cX3_foretell 71 = .ok (.iconst 2, 1) := by decide +kernel
theorem dX3_foretell_72 : decode cX3_foretell 72 = .ok (.if_icmp .ne 16, 3) := by decide +kernel
theorem dX3_foretell_75 : decode cX3_foretell 75 = .ok (.aload_n 0, 1) := by decide +kernel
theorem dX3_foretell_76 : decode cX3_foretell 76 = .ok (.aload_n 1, 1) := by decide +kernel
theorem dX3_foretell_77 : decode cX3_foretell 77 = .ok (.invokevirtual 268, 3) := by decide +kernel
theorem dX3_foretell_80 : decode cX3_foretell 80 = .ok (.ifCond .eq 8, 3) := by decide +kernel
theorem dX3_foretell_83 : decode cX3_foretell 83 = .ok (.bipush (-13), 2) := by decide +kernel
theorem dX3_foretell_85 : decode cX3_foretell 85 = .ok (.goto 9, 3) := by decide +kernel
theorem dX3_foretell_88 : decode cX3_foretell 88 = .ok (.aload_n 0, 1) := by decide +kernel
theorem dX3_foretell_89 : decode cX3_foretell 89 = .ok (.getfield 69, 3) := by decide +kernel
theorem dX3_foretell_92 : decode cX3_foretell 92 = .ok (.iconst 1, 1) := by decide +kernel
theorem dX3_foretell_93 : decode cX3_foretell 93 = .ok (.iadd, 1) := by decide +kernel
