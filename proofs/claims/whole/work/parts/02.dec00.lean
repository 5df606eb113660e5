theorem dX0_init_0 : decode cX0_init 0 = .ok (.aload_n 0, 1) := by decide +kernel
theorem dX0_init_1 : decode cX0_init 1 = .ok (.invokespecial 3, 3) := by decide +kernel
theorem dX0_init_4 : decode cX0_init 4 = .ok (.aload_n 0, 1) := by decide +kernel
theorem dX0_init_5 : decode cX0_init 5 = .ok (.bipush 8, 2) := by decide +kernel
theorem dX0_init_7 : decode cX0_init 7 = .ok (.newarray .int, 2) := by decide +kernel
theorem dX0_init_9 : decode cX0_init 9 = .ok (.putfield 9, 3) := by decide +kernel
theorem dX0_init_12 : decode cX0_init 12 = .ok (.aload_n 0, 1) := by decide +kernel
theorem dX0_init_13 : decode cX0_init 13 = .ok (.bipush 8, 2) := by decide +kernel
theorem dX0_init_15 : decode cX0_init 15 = .ok (.newarray .int, 2) := by decide +kernel
theorem dX0_init_17 : decode cX0_init 17 = .ok (.putfield 15, 3) := by decide +kernel
theorem dX0_init_20 : decode cX0_init 20 = .ok (.aload_n 0, 1) := by decide +kernel
theorem dX0_init_21 : decode cX0_init 21 = .ok (.bipush 8, 2) := by decide +kernel
theorem dX0_init_23 : decode cX0_init 23 = .ok (.newarray .int, 2) := by decide +kernel
theorem dX0_init_25 : decode cX0_init 25 = .ok (.putfield 18, 3) := by decide +kernel
theorem dX0_init_28 : decode cX0_init 28 = .ok (.aload_n 0, 1) := by decide +kernel
theorem dX0_init_29 : decode cX0_init 29 = .ok (.iconst 2, 1) := by decide +kernel
theorem dX0_init_30 : decode cX0_init 30 = .ok (.newarray .int, 2) := by decide +kernel
theorem dX0_init_32 : decode cX0_init 32 = .ok (.putfield 21, 3) := by decide +kernel
theorem dX0_init_35 : decode cX0_init 35 = .ok (.aload_n 0, 1) := by decide +kernel
theorem dX0_init_36 : decode cX0_init 36 = .ok (.iload_n 1, 1) := by decide +kernel
theorem dX0_init_37 : decode cX0_init 37 = .ok (.putfield 24, 3) := by decide +kernel
theorem dX0_init_40 : decode cX0_init 40 = .ok (.return_, 1) := by decide +kernel
theorem dX0_becomeFree_0 : decode cX0_becomeFree 0 = .ok (.aload_n 0, 1) := by decide +kernel
theorem dX0_becomeFree_1 : decode cX0_becomeFree 1 = .ok (.iconst 0, 1) := by decide +kernel
theorem dX0_becomeFree_2 : decode cX0_becomeFree 2 = .ok (.putfield 28, 3) := by decide +kernel
theorem dX0_becomeFree_5 : decode cX0_becomeFree 5 = .ok (.aload_n 0, 1) := by decide +kernel
theorem dX0_becomeFree_6 : decode cX0_becomeFree 6 = .ok (.iload_n 1, 1) := by decide +kernel
theorem dX0_becomeFree_7 : decode cX0_becomeFree 7 = .ok (.putfield 31, 3) := by decide +kernel
theorem dX0_becomeFree_10 : decode cX0_becomeFree 10 = .ok (.aload_n 0, 1) := by decide +kernel
theorem dX0_becomeFree_11 : decode cX0_becomeFree 11 = .ok (.iconst 0, 1) := by decide +kernel
theorem dX0_becomeFree_12 : decode cX0_becomeFree 12 = .ok (.putfield 35, 3) := by decide +kernel
theorem dX0_becomeFree_15 : decode cX0_becomeFree 15 = .ok (.aload_n 0, 1) := by decide +kernel
theorem dX0_becomeFree_16 : decode cX0_becomeFree 16 = .ok (.iconst 0, 1) := by decide +kernel
theorem dX0_becomeFree_17 : decode cX0_becomeFree 17 = .ok (.putfield 38, 3) := by decide +kernel
theorem dX0_becomeFree_20 : decode cX0_becomeFree 20 = .ok (.aload_n 0, 1) := by decide +kernel
theorem dX0_becomeFree_21 : decode cX0_becomeFree 21 = .ok (.iconst 0, 1) := by decide +kernel
theorem dX0_becomeFree_22 : decode cX0_becomeFree 22 = .ok (.putfield 41, 3) := by decide +kernel
theorem dX0_becomeFree_25 : decode cX0_becomeFree 25 = .ok (.aload_n 0, 1) := by decide +kernel
theorem dX0_becomeFree_26 : decode cX0_becomeFree 26 = .ok (.iconst (-1), 1) := by decide +kernel
theorem dX0_becomeFree_27 : decode cX0_becomeFree 27 = .ok (.putfield 44, 3) := by decide +kernel
theorem dX0_becomeFree_30 : decode cX0_becomeFree 30 = .ok (.iload_n 1, 1) := by decide +kernel
theorem dX0_becomeFree_31 : decode cX0_becomeFree 31 = .ok (.ifCond .ne 13, 3) := by decide +kernel
theorem dX0_becomeFree_34 : decode cX0_becomeFree 34 = .ok (.aload_n 0, 1) := by decide +kernel
theorem dX0_becomeFree_35 : decode cX0_becomeFree 35 = .ok (.iconst 0, 1) := by decide +kernel
theorem dX0_becomeFree_36 : decode cX0_becomeFree 36 = .ok (.putfield 47, 3) := by decide +kernel
theorem dX0_becomeFree_39 : decode cX0_becomeFree 39 = .ok (.aload_n 0, 1) := by decide +kernel
theorem dX0_becomeFree_40 : decode cX0_becomeFree 40 = .ok (.iconst 0, 1) := by decide +kernel
theorem dX0_becomeFree_41 : decode cX0_becomeFree 41 = .ok (.putfield 50, 3) := by decide +kernel
theorem dX0_becomeFree_44 : decode cX0_becomeFree 44 = .ok (.return_, 1) := by decide +kernel
theorem dX0_becomeOpen_0 : decode cX0_becomeOpen 0 = .ok (.aload_n 0, 1) := by decide +kernel
theorem dX0_becomeOpen_1 : decode cX0_becomeOpen 1 = .ok (.iconst 1, 1) := by decide +kernel
theorem dX0_becomeOpen_2 : decode cX0_becomeOpen 2 = .ok (.putfield 28, 3) := by decide +kernel
theorem dX0_becomeOpen_5 : decode cX0_becomeOpen 5 = .ok (.aload_n 0, 1) := by decide +kernel
theorem dX0_becomeOpen_6 : decode cX0_becomeOpen 6 = .ok (.iconst 0, 1) := by decide +kernel
theorem dX0_becomeOpen_7 : decode cX0_becomeOpen 7 = .ok (.putfield 31, 3) := by decide +kernel
theorem dX0_becomeOpen_10 : decode cX0_becomeOpen 10 = .ok (.aload_n 0, 1) := by decide +kernel
theorem dX0_becomeOpen_11 : decode cX0_becomeOpen 11 = .ok (.iload_n 1, 1) := by decide +kernel
theorem dX0_becomeOpen_12 : decode cX0_becomeOpen 12 = .ok (.putfield 35, 3) := by decide +kernel
theorem dX0_becomeOpen_15 : decode cX0_becomeOpen 15 = .ok (.aload_n 0, 1) := by decide +kernel
theorem dX0_becomeOpen_16 : decode cX0_becomeOpen 16 = .ok (.iload_n 2, 1) := by decide +kernel
theorem dX0_becomeOpen_17 : decode cX0_becomeOpen 17 = .ok (.putfield 47, 3) := by decide +kernel
theorem dX0_becomeOpen_20 : decode cX0_becomeOpen 20 = .ok (.aload_n 0, 1) := by decide +kernel
theorem dX0_becomeOpen_21 : decode cX0_becomeOpen 21 = .ok (.iload_n 3, 1) := by decide +kernel
theorem dX0_becomeOpen_22 : decode cX0_becomeOpen 22 = .ok (.putfield 50, 3) := by decide +kernel
theorem dX0_becomeOpen_25 : decode cX0_becomeOpen 25 = .ok (.return_, 1) := by decide +kernel
theorem dX0_becomeSent_0 : decode cX0_becomeSent 0 = .ok (.aload_n 0, 1) := by decide +kernel
theorem dX0_becomeSent_1 : decode cX0_becomeSent 1 = .ok (.iconst 3, 1) := by decide +kernel
theorem dX0_becomeSent_2 : decode cX0_becomeSent 2 = .ok (.putfield 28, 3) := by decide +kernel
theorem dX0_becomeSent_5 : decode cX0_becomeSent 5 = .ok (.aload_n 0, 1) := by decide +kernel
theorem dX0_becomeSent_6 : decode cX0_becomeSent 6 = .ok (.iload_n 1, 1) := by decide +kernel
theorem dX0_becomeSent_7 : decode cX0_becomeSent 7 = .ok (.putfield 44, 3) := by decide +kernel
theorem dX0_becomeSent_10 : decode cX0_becomeSent 10 = .ok (.iconst 0, 1) := by decide +kernel
theorem dX0_becomeSent_11 : decode cX0_becomeSent 11 = .ok (.istore_n 2, 1) := by decide +kernel
theorem dX0_becomeSent_12 : decode cX0_becomeSent 12 = .ok (.iload_n 2, 1) := by decide +kernel
theorem dX0_becomeSent_13 : decode cX0_becomeSent 13 = .ok (.iconst 2, 1) := by decide +kernel
theorem dX0_becomeSent_14 : decode cX0_becomeSent 14 = .ok (.if_icmp .ge 16, 3) := by decide +kernel
theorem dX0_becomeSent_17 : decode cX0_becomeSent 17 = .ok (.aload_n 0, 1) := by decide +kernel
theorem dX0_becomeSent_18 : decode cX0_becomeSent 18 = .ok (.getfield 21, 3) := by decide +kernel
theorem dX0_becomeSent_21 : decode cX0_becomeSent 21 = .ok (.iload_n 2, 1) := by decide +kernel
theorem dX0_becomeSent_22 : decode cX0_becomeSent 22 = .ok (.iconst (-1), 1) := by decide +kernel
theorem dX0_becomeSent_23 : decode cX0_becomeSent 23 = .ok (.iastore, 1) := by decide +kernel
theorem dX0_becomeSent_24 : decode cX0_becomeSent 24 = .ok (.iinc 2 1, 3) := by decide +kernel
theorem dX0_becomeSent_27 : decode cX0_becomeSent 27 = .ok (.goto (-15), 3) := by decide +kernel
theorem dX0_becomeSent_30 : decode cX0_becomeSent 30 = .ok (.return_, 1) := by decide +kernel
theorem dX0_note_0 : decode cX0_note 0 = .ok (.aload_n 0, 1) := by decide +kernel
theorem dX0_note_1 : decode cX0_note 1 = .ok (.dup, 1) := by decide +kernel
theorem dX0_note_2 : decode cX0_note 2 = .ok (.getfield 38, 3) := by decide +kernel
theorem dX0_note_5 : decode cX0_note 5 = .ok (.iload_n 1, 1) := by decide +kernel
theorem dX0_note_6 : decode cX0_note 6 = .ok (.invokestatic 53, 3) := by decide +kernel
theorem dX0_note_9 : decode cX0_note 9 = .ok (.ior, 1) := by decide +kernel
theorem dX0_note_10 : decode cX0_note 10 = .ok (.putfield 38, 3) := by decide +kernel
theorem dX0_note_13 : decode cX0_note 13 = .ok (.aload_n 0, 1) := by decide +kernel
theorem dX0_note_14 : decode cX0_note 14 = .ok (.getfield 9, 3) := by decide +kernel
theorem dX0_note_17 : decode cX0_note 17 = .ok (.iload_n 1, 1) := by decide +kernel
theorem dX0_note_18 : decode cX0_note 18 = .ok (.iload_n 2, 1) := by decide +kernel
theorem dX0_note_19 : decode cX0_note 19 = .ok (.iastore, 1) := by decide +kernel
theorem dX0_note_20 : decode cX0_note 20 = .ok (.aload_n 0, 1) := by decide +kernel
theorem dX0_note_21 : decode cX0_note 21 = .ok (.getfield 15, 3) := by decide +kernel
theorem dX0_note_24 : decode cX0_note 24 = .ok (.iload_n 1, 1) := by decide +kernel
theorem dX0_note_25 : decode cX0_note 25 = .ok (.iload_n 3, 1) := by decide +kernel
theorem dX0_note_26 : decode cX0_note 26 = .ok (.iastore, 1) := by decide +kernel
theorem dX0_note_27 : decode cX0_note 27 = .ok (.return_, 1) := by decide +kernel
theorem dX0_hasAllVotes_0 : decode cX0_hasAllVotes 0 = .ok (.aload_n 0, 1) := by decide +kernel
theorem dX0_hasAllVotes_1 : decode cX0_hasAllVotes 1 = .ok (.getfield 21, 3) := by decide +kernel
theorem dX0_hasAllVotes_4 : decode cX0_hasAllVotes 4 = .ok (.astore_n 1, 1) := by decide +kernel
theorem dX0_hasAllVotes_5 : decode cX0_hasAllVotes 5 = .ok (.aload_n 1, 1) := by decide +kernel
theorem dX0_hasAllVotes_6 : decode cX0_hasAllVotes 6 = .ok (.arraylength, 1) := by decide +kernel
theorem dX0_hasAllVotes_7 : decode cX0_hasAllVotes 7 = .ok (.istore_n 2, 1) := by decide +kernel
theorem dX0_hasAllVotes_8 : decode cX0_hasAllVotes 8 = .ok (.iconst 0, 1) := by decide +kernel
theorem dX0_hasAllVotes_9 : decode cX0_hasAllVotes 9 = .ok (.istore_n 3, 1) := by decide +kernel
theorem dX0_hasAllVotes_10 : decode cX0_hasAllVotes 10 = .ok (.iload_n 3, 1) := by decide +kernel
theorem dX0_hasAllVotes_11 : decode cX0_hasAllVotes 11 = .ok (.iload_n 2, 1) := by decide +kernel
theorem dX0_hasAllVotes_12 : decode cX0_hasAllVotes 12 = .ok (.if_icmp .ge 22, 3) := by decide +kernel
theorem dX0_hasAllVotes_15 : decode cX0_hasAllVotes 15 = .ok (.aload_n 1, 1) := by decide +kernel
theorem dX0_hasAllVotes_16 : decode cX0_hasAllVotes 16 = .ok (.iload_n 3, 1) := by decide +kernel
theorem dX0_hasAllVotes_17 : decode cX0_hasAllVotes 17 = .ok (.iaload, 1) := by decide +kernel
theorem dX0_hasAllVotes_18 : decode cX0_hasAllVotes 18 = .ok (.istore 4, 2) := by decide +kernel
theorem dX0_hasAllVotes_20 : decode cX0_hasAllVotes 20 = .ok (.iload 4, 2) := by decide +kernel
theorem dX0_hasAllVotes_22 : decode cX0_hasAllVotes 22 = .ok (.iconst (-1), 1) := by decide +kernel
theorem dX0_hasAllVotes_23 : decode cX0_hasAllVotes 23 = .ok (.if_icmp .ne 5, 3) := by decide +kernel
theorem dX0_hasAllVotes_26 : decode cX0_hasAllVotes 26 = .ok (.iconst 0, 1) := by decide +kernel
theorem dX0_hasAllVotes_27 : decode cX0_hasAllVotes 27 = .ok (.ireturn, 1) := by decide +kernel
theorem dX0_hasAllVotes_28 : decode cX0_hasAllVotes 28 = .ok (.iinc 3 1, 3) := by decide +kernel
theorem dX0_hasAllVotes_31 : decode cX0_hasAllVotes 31 = .ok (.goto (-21), 3) := by decide +kernel
theorem dX0_hasAllVotes_34 : decode cX0_hasAllVotes 34 = .ok (.iconst 1, 1) := by decide +kernel
theorem dX0_hasAllVotes_35 : decode cX0_hasAllVotes 35 = .ok (.ireturn, 1) := by decide +kernel
theorem dX0_hasOnlyYes_0 : decode cX0_hasOnlyYes 0 = .ok (.aload_n 0, 1) := by decide +kernel
theorem dX0_hasOnlyYes_1 : decode cX0_hasOnlyYes 1 = .ok (.getfield 21, 3) := by decide +kernel
theorem dX0_hasOnlyYes_4 : decode cX0_hasOnlyYes 4 = .ok (.astore_n 1, 1) := by decide +kernel
theorem dX0_hasOnlyYes_5 : decode cX0_hasOnlyYes 5 = .ok (.aload_n 1, 1) := by decide +kernel
theorem dX0_hasOnlyYes_6 : decode cX0_hasOnlyYes 6 = .ok (.arraylength, 1) := by decide +kernel
theorem dX0_hasOnlyYes_7 : decode cX0_hasOnlyYes 7 = .ok (.istore_n 2, 1) := by decide +kernel
theorem dX0_hasOnlyYes_8 : decode cX0_hasOnlyYes 8 = .ok (.iconst 0, 1) := by decide +kernel
theorem dX0_hasOnlyYes_9 : decode cX0_hasOnlyYes 9 = .ok (.istore_n 3, 1) := by decide +kernel
theorem dX0_hasOnlyYes_10 : decode cX0_hasOnlyYes 10 = .ok (.iload_n 3, 1) := by decide +kernel
theorem dX0_hasOnlyYes_11 : decode cX0_hasOnlyYes 11 = .ok (.iload_n 2, 1) := by decide +kernel
theorem dX0_hasOnlyYes_12 : decode cX0_hasOnlyYes 12 = .ok (.if_icmp .ge 22, 3) := by decide +kernel
theorem dX0_hasOnlyYes_15 : decode cX0_hasOnlyYes 15 = .ok (.aload_n 1, 1) := by decide +kernel
theorem dX0_hasOnlyYes_16 : decode cX0_hasOnlyYes 16 = .ok (.iload_n 3, 1) := by decide +kernel
theorem dX0_hasOnlyYes_17 : decode cX0_hasOnlyYes 17 = .ok (.iaload, 1) := by decide +kernel
theorem dX0_hasOnlyYes_18 : decode cX0_hasOnlyYes 18 = .ok (.istore 4, 2) := by decide +kernel
theorem dX0_hasOnlyYes_20 : decode cX0_hasOnlyYes 20 = .ok (.iload 4, 2) := by decide +kernel
theorem dX0_hasOnlyYes_22 : decode cX0_hasOnlyYes 22 = .ok (.iconst 1, 1) := by decide +kernel
theorem dX0_hasOnlyYes_23 : decode cX0_hasOnlyYes 23 = .ok (.if_icmp .eq 5, 3) := by decide +kernel
theorem dX0_hasOnlyYes_26 : decode cX0_hasOnlyYes 26 = .ok (.iconst 0, 1) := by decide +kernel
theorem dX0_hasOnlyYes_27 : decode cX0_hasOnlyYes 27 = .ok (.ireturn, 1) := by decide +kernel
theorem dX0_hasOnlyYes_28 : decode cX0_hasOnlyYes 28 = .ok (.iinc 3 1, 3) := by decide +kernel
theorem dX0_hasOnlyYes_31 : decode cX0_hasOnlyYes 31 = .ok (.goto (-21), 3) := by decide +kernel
theorem dX0_hasOnlyYes_34 : decode cX0_hasOnlyYes 34 = .ok (.iconst 1, 1) := by decide +kernel
theorem dX0_hasOnlyYes_35 : decode cX0_hasOnlyYes 35 = .ok (.ireturn, 1) := by decide +kernel
theorem dX1_init_0 : decode cX1_init 0 = .ok (.aload_n 0, 1) := by decide +kernel
theorem dX1_init_1 : decode cX1_init 1 = .ok (.invokespecial 3, 3) := by decide +kernel
theorem dX1_init_4 : decode cX1_init 4 = .ok (.aload_n 0, 1) := by decide +kernel
theorem dX1_init_5 : decode cX1_init 5 = .ok (.bipush 8, 2) := by decide +kernel
theorem dX1_init_7 : decode cX1_init 7 = .ok (.newarray .int, 2) := by decide +kernel
theorem dX1_init_9 : decode cX1_init 9 = .ok (.putfield 9, 3) := by decide +kernel
theorem dX1_init_12 : decode cX1_init 12 = .ok (.aload_n 0, 1) := by decide +kernel
theorem dX1_init_13 : decode cX1_init 13 = .ok (.bipush 8, 2) := by decide +kernel
theorem dX1_init_15 : decode cX1_init 15 = .ok (.newarray .int, 2) := by decide +kernel
theorem dX1_init_17 : decode cX1_init 17 = .ok (.putfield 15, 3) := by decide +kernel
theorem dX1_init_20 : decode cX1_init 20 = .ok (.return_, 1) := by decide +kernel
theorem dX1_keepDeal_0 : decode cX1_keepDeal 0 = .ok (.aload_n 0, 1) := by decide +kernel
theorem dX1_keepDeal_1 : decode cX1_keepDeal 1 = .ok (.aload_n 1, 1) := by decide +kernel
theorem dX1_keepDeal_2 : decode cX1_keepDeal 2 = .ok (.getfield 18, 3) := by decide +kernel
theorem dX1_keepDeal_5 : decode cX1_keepDeal 5 = .ok (.putfield 24, 3) := by decide +kernel
theorem dX1_keepDeal_8 : decode cX1_keepDeal 8 = .ok (.aload_n 0, 1) := by decide +kernel
theorem dX1_keepDeal_9 : decode cX1_keepDeal 9 = .ok (.aload_n 1, 1) := by decide +kernel
theorem dX1_keepDeal_10 : decode cX1_keepDeal 10 = .ok (.getfield 27, 3) := by decide +kernel
theorem dX1_keepDeal_13 : decode cX1_keepDeal 13 = .ok (.putfield 30, 3) := by decide +kernel
theorem dX1_keepDeal_16 : decode cX1_keepDeal 16 = .ok (.aload_n 0, 1) := by decide +kernel
theorem dX1_keepDeal_17 : decode cX1_keepDeal 17 = .ok (.aload_n 1, 1) := by decide +kernel
theorem dX1_keepDeal_18 : decode cX1_keepDeal 18 = .ok (.getfield 31, 3) := by decide +kernel
theorem dX1_keepDeal_21 : decode cX1_keepDeal 21 = .ok (.putfield 34, 3) := by decide +kernel
theorem dX1_keepDeal_24 : decode cX1_keepDeal 24 = .ok (.aload_n 0, 1) := by decide +kernel
theorem dX1_keepDeal_25 : decode cX1_keepDeal 25 = .ok (.aload_n 1, 1) := by decide +kernel
theorem dX1_keepDeal_26 : decode cX1_keepDeal 26 = .ok (.getfield 35, 3) := by decide +kernel
theorem dX1_keepDeal_29 : decode cX1_keepDeal 29 = .ok (.putfield 38, 3) := by decide +kernel
theorem dX1_keepDeal_32 : decode cX1_keepDeal 32 = .ok (.aload_n 0, 1) := by decide +kernel
theorem dX1_keepDeal_33 : decode cX1_keepDeal 33 = .ok (.aload_n 1, 1) := by decide +kernel
theorem dX1_keepDeal_34 : decode cX1_keepDeal 34 = .ok (.getfield 39, 3) := by decide +kernel
theorem dX1_keepDeal_37 : decode cX1_keepDeal 37 = .ok (.putfield 42, 3) := by decide +kernel
theorem dX1_keepDeal_40 : decode cX1_keepDeal 40 = .ok (.aload_n 0, 1) := by decide +kernel
theorem dX1_keepDeal_41 : decode cX1_keepDeal 41 = .ok (.iload_n 2, 1) := by decide +kernel
theorem dX1_keepDeal_42 : decode cX1_keepDeal 42 = .ok (.putfield 43, 3) := by decide +kernel
theorem dX1_keepDeal_45 : decode cX1_keepDeal 45 = .ok (.iconst 0, 1) := by decide +kernel
theorem dX1_keepDeal_46 : decode cX1_keepDeal 46 = .ok (.istore_n 3, 1) := by decide +kernel
theorem dX1_keepDeal_47 : decode cX1_keepDeal 47 = .ok (.iload_n 3, 1) := by decide +kernel
theorem dX1_keepDeal_48 : decode cX1_keepDeal 48 = .ok (.bipush 8, 2) := by decide +kernel
theorem dX1_keepDeal_50 : decode cX1_keepDeal 50 = .ok (.if_icmp .ge 33, 3) := by decide +kernel
theorem dX1_keepDeal_53 : decode cX1_keepDeal 53 = .ok (.aload_n 0, 1) := by decide +kernel
theorem dX1_keepDeal_54 : decode cX1_keepDeal 54 = .ok (.getfield 9, 3) := by decide +kernel
theorem dX1_keepDeal_57 : decode cX1_keepDeal 57 = .ok (.iload_n 3, 1) := by decide +kernel
theorem dX1_keepDeal_58 : decode cX1_keepDeal 58 = .ok (.aload_n 1, 1) := by decide +kernel
theorem dX1_keepDeal_59 : decode cX1_keepDeal 59 = .ok (.getfield 46, 3) := by decide +kernel
theorem dX1_keepDeal_62 : decode cX1_keepDeal 62 = .ok (.iload_n 3, 1) := by decide +kernel
theorem dX1_keepDeal_63 : decode cX1_keepDeal 63 = .ok (.iaload, 1) := by decide +kernel
theorem dX1_keepDeal_64 : decode cX1_keepDeal 64 = .ok (.iastore, 1) := by decide +kernel
theorem dX1_keepDeal_65 : decode cX1_keepDeal 65 = .ok (.aload_n 0, 1) := by decide +kernel
theorem dX1_keepDeal_66 : decode cX1_keepDeal 66 = .ok (.getfield 15, 3) := by decide +kernel
theorem dX1_keepDeal_69 : decode cX1_keepDeal 69 = .ok (.iload_n 3, 1) := by decide +kernel
theorem dX1_keepDeal_70 : decode cX1_keepDeal 70 = .ok (.aload_n 1, 1) := by decide +kernel
theorem dX1_keepDeal_71 : decode cX1_keepDeal 71 = .ok (.getfield 47, 3) := by decide +kernel
theorem dX1_keepDeal_74 : decode cX1_keepDeal 74 = .ok (.iload_n 3, 1) := by decide +kernel
theorem dX1_keepDeal_75 : decode cX1_keepDeal 75 = .ok (.iaload, 1) := by decide +kernel
theorem dX1_keepDeal_76 : decode cX1_keepDeal 76 = .ok (.iastore, 1) := by decide +kernel
theorem dX1_keepDeal_77 : decode cX1_keepDeal 77 = .ok (.iinc 3 1, 3) := by decide +kernel
theorem dX1_keepDeal_80 : decode cX1_keepDeal 80 = .ok (.goto (-33), 3) := by decide +kernel
theorem dX1_keepDeal_83 : decode cX1_keepDeal 83 = .ok (.return_, 1) := by decide +kernel
theorem dX1_keepWrite_0 : decode cX1_keepWrite 0 = .ok (.aload_n 0, 1) := by decide +kernel
theorem dX1_keepWrite_1 : decode cX1_keepWrite 1 = .ok (.iconst (-1), 1) := by decide +kernel
theorem dX1_keepWrite_2 : decode cX1_keepWrite 2 = .ok (.putfield 24, 3) := by decide +kernel
theorem dX1_keepWrite_5 : decode cX1_keepWrite 5 = .ok (.aload_n 0, 1) := by decide +kernel
theorem dX1_keepWrite_6 : decode cX1_keepWrite 6 = .ok (.iconst 0, 1) := by decide +kernel
theorem dX1_keepWrite_7 : decode cX1_keepWrite 7 = .ok (.putfield 30, 3) := by decide +kernel
theorem dX1_keepWrite_10 : decode cX1_keepWrite 10 = .ok (.aload_n 0, 1) := by decide +kernel
theorem dX1_keepWrite_11 : decode cX1_keepWrite 11 = .ok (.iconst 0, 1) := by decide +kernel
theorem dX1_keepWrite_12 : decode cX1_keepWrite 12 = .ok (.putfield 34, 3) := by decide +kernel
theorem dX1_keepWrite_15 : decode cX1_keepWrite 15 = .ok (.aload_n 0, 1) := by decide +kernel
theorem dX1_keepWrite_16 : decode cX1_keepWrite 16 = .ok (.iconst 0, 1) := by decide +kernel
theorem dX1_keepWrite_17 : decode cX1_keepWrite 17 = .ok (.putfield 38, 3) := by decide +kernel
theorem dX1_keepWrite_20 : decode cX1_keepWrite 20 = .ok (.aload_n 0, 1) := by decide +kernel
theorem dX1_keepWrite_21 : decode cX1_keepWrite 21 = .ok (.iload_n 1, 1) := by decide +kernel
theorem dX1_keepWrite_22 : decode cX1_keepWrite 22 = .ok (.invokestatic 48, 3) := by decide +kernel
theorem dX1_keepWrite_25 : decode cX1_keepWrite 25 = .ok (.putfield 42, 3) := by decide +kernel
theorem dX1_keepWrite_28 : decode cX1_keepWrite 28 = .ok (.aload_n 0, 1) := by decide +kernel
theorem dX1_keepWrite_29 : decode cX1_keepWrite 29 = .ok (.iconst 4, 1) := by decide +kernel
theorem dX1_keepWrite_30 : decode cX1_keepWrite 30 = .ok (.putfield 43, 3) := by decide +kernel
theorem dX1_keepWrite_33 : decode cX1_keepWrite 33 = .ok (.aload_n 0, 1) := by decide +kernel
theorem dX1_keepWrite_34 : decode cX1_keepWrite 34 = .ok (.getfield 15, 3) := by decide +kernel
theorem dX1_keepWrite_37 : decode cX1_keepWrite 37 = .ok (.iload_n 1, 1) := by decide +kernel
theorem dX1_keepWrite_38 : decode cX1_keepWrite 38 = .ok (.iload_n 2, 1) := by decide +kernel
theorem dX1_keepWrite_39 : decode cX1_keepWrite 39 = .ok (.iastore, 1) := by decide +kernel
theorem dX1_keepWrite_40 : decode cX1_keepWrite 40 = .ok (.return_, 1) := by decide +kernel
theorem dX1_hasNoted_0 : decode cX1_hasNoted 0 = .ok (.iconst 0, 1) := by decide +kernel
theorem dX1_hasNoted_1 : decode cX1_hasNoted 1 = .ok (.istore_n 2, 1) := by decide +kernel
theorem dX1_hasNoted_2 : decode cX1_hasNoted 2 = .ok (.iload_n 2, 1) := by decide +kernel
theorem dX1_hasNoted_3 : decode cX1_hasNoted 3 = .ok (.bipush 8, 2) := by decide +kernel
theorem dX1_hasNoted_5 : decode cX1_hasNoted 5 = .ok (.if_icmp .ge 32, 3) := by decide +kernel
theorem dX1_hasNoted_8 : decode cX1_hasNoted 8 = .ok (.aload_n 0, 1) := by decide +kernel
theorem dX1_hasNoted_9 : decode cX1_hasNoted 9 = .ok (.getfield 38, 3) := by decide +kernel
theorem dX1_hasNoted_12 : decode cX1_hasNoted 12 = .ok (.iload_n 2, 1) := by decide +kernel
theorem dX1_hasNoted_13 : decode cX1_hasNoted 13 = .ok (.invokestatic 52, 3) := by decide +kernel
theorem dX1_hasNoted_16 : decode cX1_hasNoted 16 = .ok (.ifCond .eq 15, 3) := by decide +kernel
theorem dX1_hasNoted_19 : decode cX1_hasNoted 19 = .ok (.aload_n 0, 1) := by decide +kernel
theorem dX1_hasNoted_20 : decode cX1_hasNoted 20 = .ok (.getfield 9, 3) := by decide +kernel
theorem dX1_hasNoted_23 : decode cX1_hasNoted 23 = .ok (.iload_n 2, 1) := by decide +kernel
theorem dX1_hasNoted_24 : decode cX1_hasNoted 24 = .ok (.iaload, 1) := by decide +kernel
theorem dX1_hasNoted_25 : decode cX1_hasNoted 25 = .ok (.iload_n 1, 1) := by decide +kernel
theorem dX1_hasNoted_26 : decode cX1_hasNoted 26 = .ok (.if_icmp .ne 5, 3) := by decide +kernel
theorem dX1_hasNoted_29 : decode cX1_hasNoted 29 = .ok (.iconst 1, 1) := by decide +kernel
theorem dX1_hasNoted_30 : decode cX1_hasNoted 30 = .ok (.ireturn, 1) := by decide +kernel
theorem dX1_hasNoted_31 : decode cX1_hasNoted 31 = .ok (.iinc 2 1, 3) := by decide +kernel
theorem dX1_hasNoted_34 : decode cX1_hasNoted 34 = .ok (.goto (-32), 3) := by decide +kernel
theorem dX1_hasNoted_37 : decode cX1_hasNoted 37 = .ok (.iconst 0, 1) := by decide +kernel
theorem dX1_hasNoted_38 : decode cX1_hasNoted 38 = .ok (.ireturn, 1) := by decide +kernel
theorem dX2_init_0 : decode cX2_init 0 = .ok (.aload_n 0, 1) := by decide +kernel
theorem dX2_init_1 : decode cX2_init 1 = .ok (.invokespecial 3, 3) := by decide +kernel
theorem dX2_init_4 : decode cX2_init 4 = .ok (.aload_n 0, 1) := by decide +kernel
theorem dX2_init_5 : decode cX2_init 5 = .ok (.sipush 200, 3) := by decide +kernel
theorem dX2_init_8 : decode cX2_init 8 = .ok (.newarray .int, 2) := by decide +kernel
theorem dX2_init_10 : decode cX2_init 10 = .ok (.putfield 11, 3) := by decide +kernel
theorem dX2_init_13 : decode cX2_init 13 = .ok (.aload_n 0, 1) := by decide +kernel
theorem dX2_init_14 : decode cX2_init 14 = .ok (.bipush 24, 2) := by decide +kernel
theorem dX2_init_16 : decode cX2_init 16 = .ok (.newarray .int, 2) := by decide +kernel
theorem dX2_init_18 : decode cX2_init 18 = .ok (.putfield 15, 3) := by decide +kernel
theorem dX2_init_21 : decode cX2_init 21 = .ok (.aload_n 0, 1) := by decide +kernel
theorem dX2_init_22 : decode cX2_init 22 = .ok (.bipush 72, 2) := by decide +kernel
theorem dX2_init_24 : decode cX2_init 24 = .ok (.newarray .int, 2) := by decide +kernel
theorem dX2_init_26 : decode cX2_init 26 = .ok (.putfield 18, 3) := by decide +kernel
theorem dX2_init_29 : decode cX2_init 29 = .ok (.return_, 1) := by decide +kernel
theorem dX2_append_0 : decode cX2_append 0 = .ok (.aload_n 0, 1) := by decide +kernel
theorem dX2_append_1 : decode cX2_append 1 = .ok (.getfield 21, 3) := by decide +kernel
theorem dX2_append_4 : decode cX2_append 4 = .ok (.sipush 200, 3) := by decide +kernel
theorem dX2_append_7 : decode cX2_append 7 = .ok (.if_icmp .ge 23, 3) := by decide +kernel
theorem dX2_append_10 : decode cX2_append 10 = .ok (.aload_n 0, 1) := by decide +kernel
theorem dX2_append_11 : decode cX2_append 11 = .ok (.getfield 11, 3) := by decide +kernel
theorem dX2_append_14 : decode cX2_append 14 = .ok (.aload_n 0, 1) := by decide +kernel
theorem dX2_append_15 : decode cX2_append 15 = .ok (.getfield 21, 3) := by decide +kernel
theorem dX2_append_18 : decode cX2_append 18 = .ok (.iload_n 1, 1) := by decide +kernel
theorem dX2_append_19 : decode cX2_append 19 = .ok (.iastore, 1) := by decide +kernel
theorem dX2_append_20 : decode cX2_append 20 = .ok (.aload_n 0, 1) := by decide +kernel
theorem dX2_append_21 : decode cX2_append 21 = .ok (.dup, 1) := by decide +kernel
theorem dX2_append_22 : decode cX2_append 22 = .ok (.getfield 21, 3) := by decide +kernel
theorem dX2_append_25 : decode cX2_append 25 = .ok (.iconst 1, 1) := by decide +kernel
theorem dX2_append_26 : decode cX2_append 26 = .ok (.iadd, 1) := by decide +kernel
theorem dX2_append_27 : decode cX2_append 27 = .ok (.putfield 21, 3) := by decide +kernel
theorem dX2_append_30 : decode cX2_append 30 = .ok (.return_, 1) := by decide +kernel
theorem dX2_kindOf_0 : decode cX2_kindOf 0 = .ok (.iload_n 1, 1) := by decide +kernel
theorem dX2_kindOf_1 : decode cX2_kindOf 1 = .ok (.ifCond .lt 18, 3) := by decide +kernel
theorem dX2_kindOf_4 : decode cX2_kindOf 4 = .ok (.iload_n 1, 1) := by decide +kernel
theorem dX2_kindOf_5 : decode cX2_kindOf 5 = .ok (.bipush 24, 2) := by decide +kernel
theorem dX2_kindOf_7 : decode cX2_kindOf 7 = .ok (.if_icmp .ge 12, 3) := by decide +kernel
theorem dX2_kindOf_10 : decode cX2_kindOf 10 = .ok (.aload_n 0, 1) := by decide +kernel
theorem dX2_kindOf_11 : decode cX2_kindOf 11 = .ok (.getfield 15, 3) := by decide +kernel
theorem dX2_kindOf_14 : decode cX2_kindOf 14 = .ok (.iload_n 1, 1) := by decide +kernel
theorem dX2_kindOf_15 : decode cX2_kindOf 15 = .ok (.iaload, 1) := by decide +kernel
theorem dX2_kindOf_16 : decode cX2_kindOf 16 = .ok (.goto 4, 3) := by decide +kernel
theorem dX2_kindOf_19 : decode cX2_kindOf 19 = .ok (.iconst (-1), 1) := by decide +kernel
theorem dX2_kindOf_20 : decode cX2_kindOf 20 = .ok (.ireturn, 1) := by decide +kernel
theorem dX2_numberOf_0 : decode cX2_numberOf 0 = .ok (.iload_n 1, 1) := by decide +kernel
theorem dX2_numberOf_1 : decode cX2_numberOf 1 = .ok (.ifCond .lt 22, 3) := by decide +kernel
theorem dX2_numberOf_4 : decode cX2_numberOf 4 = .ok (.iload_n 1, 1) := by decide +kernel
theorem dX2_numberOf_5 : decode cX2_numberOf 5 = .ok (.bipush 24, 2) := by decide +kernel
theorem dX2_numberOf_7 : decode cX2_numberOf 7 = .ok (.if_icmp .ge 16, 3) := by decide +kernel
theorem dX2_numberOf_10 : decode cX2_numberOf 10 = .ok (.iload_n 2, 1) := by decide +kernel
theorem dX2_numberOf_11 : decode cX2_numberOf 11 = .ok (.ifCond .lt 12, 3) := by decide +kernel
theorem dX2_numberOf_14 : decode cX2_numberOf 14 = .ok (.iload_n 2, 1) := by decide +kernel
theorem dX2_numberOf_15 : decode cX2_numberOf 15 = .ok (.iconst 3, 1) := by decide +kernel
theorem dX2_numberOf_16 : decode cX2_numberOf 16 = .ok (.if_icmp .ge 7, 3) := by decide +kernel
theorem dX2_numberOf_19 : decode cX2_numberOf 19 = .ok (.iconst 1, 1) := by decide +kernel
theorem dX2_numberOf_20 : decode cX2_numberOf 20 = .ok (.goto 4, 3) := by decide +kernel
theorem dX2_numberOf_23 : decode cX2_numberOf 23 = .ok (.iconst 0, 1) := by decide +kernel
theorem dX2_numberOf_24 : decode cX2_numberOf 24 = .ok (.istore_n 3, 1) := by decide +kernel
theorem dX2_numberOf_25 : decode cX2_numberOf 25 = .ok (.iload_n 3, 1) := by decide +kernel
theorem dX2_numberOf_26 : decode cX2_numberOf 26 = .ok (.ifCond .eq 16, 3) := by decide +kernel
theorem dX2_numberOf_29 : decode cX2_numberOf 29 = .ok (.aload_n 0, 1) := by decide +kernel
theorem dX2_numberOf_30 : decode cX2_numberOf 30 = .ok (.getfield 18, 3) := by decide +kernel
theorem dX2_numberOf_33 : decode cX2_numberOf 33 = .ok (.iload_n 1, 1) := by decide +kernel
theorem dX2_numberOf_34 : decode cX2_numberOf 34 = .ok (.iconst 3, 1) := by decide +kernel
theorem dX2_numberOf_35 : decode cX2_numberOf 35 = .ok (.imul, 1) := by decide +kernel
theorem dX2_numberOf_36 : decode cX2_numberOf 36 = .ok (.iload_n 2, 1) := by decide +kernel
theorem dX2_numberOf_37 : decode cX2_numberOf 37 = .ok (.iadd, 1) := by decide +kernel
theorem dX2_numberOf_38 : decode cX2_numberOf 38 = .ok (.iaload, 1) := by decide +kernel
theorem dX2_numberOf_39 : decode cX2_numberOf 39 = .ok (.goto 4, 3) := by decide +kernel
theorem dX2_numberOf_42 : decode cX2_numberOf 42 = .ok (.iconst (-1), 1) := by decide +kernel
theorem dX2_numberOf_43 : decode cX2_numberOf 43 = .ok (.ireturn, 1) := by decide +kernel
theorem dX2_parse_0 : decode cX2_parse 0 = .ok (.aload_n 0, 1) := by decide +kernel
theorem dX2_parse_1 : decode cX2_parse 1 = .ok (.iconst 0, 1) := by decide +kernel
theorem dX2_parse_2 : decode cX2_parse 2 = .ok (.putfield 25, 3) := by decide +kernel
theorem dX2_parse_5 : decode cX2_parse 5 = .ok (.aload_n 0, 1) := by decide +kernel
theorem dX2_parse_6 : decode cX2_parse 6 = .ok (.iconst 0, 1) := by decide +kernel
theorem dX2_parse_7 : decode cX2_parse 7 = .ok (.putfield 28, 3) := by decide +kernel
theorem dX2_parse_10 : decode cX2_parse 10 = .ok (.aload_n 0, 1) := by decide +kernel
theorem dX2_parse_11 : decode cX2_parse 11 = .ok (.invokevirtual 31, 3) := by decide +kernel
theorem dX2_parse_14 : decode cX2_parse 14 = .ok (.iconst 0, 1) := by decide +kernel
theorem dX2_parse_15 : decode cX2_parse 15 = .ok (.istore_n 1, 1) := by decide +kernel
theorem dX2_parse_16 : decode cX2_parse 16 = .ok (.iload_n 1, 1) := by decide +kernel
theorem dX2_parse_17 : decode cX2_parse 17 = .ok (.bipush 24, 2) := by decide +kernel
theorem dX2_parse_19 : decode cX2_parse 19 = .ok (.if_icmp .ge 73, 3) := by decide +kernel
theorem dX2_parse_22 : decode cX2_parse 22 = .ok (.aload_n 0, 1) := by decide +kernel
theorem dX2_parse_23 : decode cX2_parse 23 = .ok (.iload_n 1, 1) := by decide +kernel
theorem dX2_parse_24 : decode cX2_parse 24 = .ok (.invokevirtual 34, 3) := by decide +kernel
theorem dX2_parse_27 : decode cX2_parse 27 = .ok (.ifCond .ne 8, 3) := by decide +kernel
theorem dX2_parse_30 : decode cX2_parse 30 = .ok (.aload_n 0, 1) := by decide +kernel
theorem dX2_parse_31 : decode cX2_parse 31 = .ok (.getfield 38, 3) := by decide +kernel
theorem dX2_parse_34 : decode cX2_parse 34 = .ok (.ireturn, 1) := by decide +kernel
theorem dX2_parse_35 : decode cX2_parse 35 = .ok (.aload_n 0, 1) := by decide +kernel
theorem dX2_parse_36 : decode cX2_parse 36 = .ok (.iload_n 1, 1) := by decide +kernel
theorem dX2_parse_37 : decode cX2_parse 37 = .ok (.iconst 1, 1) := by decide +kernel
theorem dX2_parse_38 : decode cX2_parse 38 = .ok (.iadd, 1) := by decide +kernel
theorem dX2_parse_39 : decode cX2_parse 39 = .ok (.putfield 25, 3) := by decide +kernel
theorem dX2_parse_42 : decode cX2_parse 42 = .ok (.aload_n 0, 1) := by decide +kernel
theorem dX2_parse_43 : decode cX2_parse 43 = .ok (.getfield 38, 3) := by decide +kernel
theorem dX2_parse_46 : decode cX2_parse 46 = .ok (.aload_n 0, 1) := by decide +kernel
theorem dX2_parse_47 : decode cX2_parse 47 = .ok (.getfield 21, 3) := by decide +kernel
theorem dX2_parse_50 : decode cX2_parse 50 = .ok (.if_icmp .lt 5, 3) := by decide +kernel
theorem dX2_parse_53 : decode cX2_parse 53 = .ok (.iconst (-1), 1) := by decide +kernel
theorem dX2_parse_54 : decode cX2_parse 54 = .ok (.ireturn, 1) := by decide +kernel
theorem dX2_parse_55 : decode cX2_parse 55 = .ok (.aload_n 0, 1) := by decide +kernel
theorem dX2_parse_56 : decode cX2_parse 56 = .ok (.aload_n 0, 1) := by decide +kernel
theorem dX2_parse_57 : decode cX2_parse 57 = .ok (.getfield 38, 3) := by decide +kernel
theorem dX2_parse_60 : decode cX2_parse 60 = .ok (.invokevirtual 41, 3) := by decide +kernel
theorem dX2_parse_63 : decode cX2_parse 63 = .ok (.bipush 59, 2) := by decide +kernel
theorem dX2_parse_65 : decode cX2_parse 65 = .ok (.if_icmp .ne 12, 3) := by decide +kernel
theorem dX2_parse_68 : decode cX2_parse 68 = .ok (.aload_n 0, 1) := by decide +kernel
theorem dX2_parse_69 : decode cX2_parse 69 = .ok (.getfield 25, 3) := by decide +kernel
theorem dX2_parse_72 : decode cX2_parse 72 = .ok (.bipush 24, 2) := by decide +kernel
theorem dX2_parse_74 : decode cX2_parse 74 = .ok (.if_icmp .ne 8, 3) := by decide +kernel
theorem dX2_parse_77 : decode cX2_parse 77 = .ok (.aload_n 0, 1) := by decide +kernel
theorem dX2_parse_78 : decode cX2_parse 78 = .ok (.getfield 38, 3) := by decide +kernel
theorem dX2_parse_81 : decode cX2_parse 81 = .ok (.ireturn, 1) := by decide +kernel
theorem dX2_parse_82 : decode cX2_parse 82 = .ok (.aload_n 0, 1) := by decide +kernel
theorem dX2_parse_83 : decode cX2_parse 83 = .ok (.invokevirtual 31, 3) := by decide +kernel
theorem dX2_parse_86 : decode cX2_parse 86 = .ok (.iinc 1 1, 3) := by decide +kernel
theorem dX2_parse_89 : decode cX2_parse 89 = .ok (.goto (-73), 3) := by decide +kernel
theorem dX2_parse_92 : decode cX2_parse 92 = .ok (.aload_n 0, 1) := by decide +kernel
theorem dX2_parse_93 : decode cX2_parse 93 = .ok (.getfield 38, 3) := by decide +kernel
theorem dX2_parse_96 : decode cX2_parse 96 = .ok (.ireturn, 1) := by decide +kernel
theorem dX2_takeClause_0 : decode cX2_takeClause 0 = .ok (.aload_n 0, 1) := by decide +kernel
theorem dX2_takeClause_1 : decode cX2_takeClause 1 = .ok (.invokevirtual 45, 3) := by decide +kernel
theorem dX2_takeClause_4 : decode cX2_takeClause 4 = .ok (.istore_n 2, 1) := by decide +kernel
theorem dX2_takeClause_5 : decode cX2_takeClause 5 = .ok (.iload_n 2, 1) := by decide +kernel
theorem dX2_takeClause_6 : decode cX2_takeClause 6 = .ok (.iconst (-1), 1) := by decide +kernel
theorem dX2_takeClause_7 : decode cX2_takeClause 7 = .ok (.if_icmp .eq 13, 3) := by decide +kernel
theorem dX2_takeClause_10 : decode cX2_takeClause 10 = .ok (.iload_n 1, 1) := by decide +kernel
theorem dX2_takeClause_11 : decode cX2_takeClause 11 = .ok (.ifCond .lt 9, 3) := by decide +kernel
theorem dX2_takeClause_14 : decode cX2_takeClause 14 = .ok (.iload_n 1, 1) := by decide +kernel
theorem dX2_takeClause_15 : decode cX2_takeClause 15 = .ok (.bipush 24, 2) := by decide +kernel
theorem dX2_takeClause_17 : decode cX2_takeClause 17 = .ok (.if_icmp .lt 5, 3) := by decide +kernel
theorem dX2_takeClause_20 : decode cX2_takeClause 20 = .ok (.iconst 0, 1) := by decide +kernel
theorem dX2_takeClause_21 : decode cX2_takeClause 21 = .ok (.ireturn, 1) := by decide +kernel
theorem dX2_takeClause_22 : decode cX2_takeClause 22 = .ok (.aload_n 0, 1) := by decide +kernel
theorem dX2_takeClause_23 : decode cX2_takeClause 23 = .ok (.getfield 15, 3) := by decide +kernel
theorem dX2_takeClause_26 : decode cX2_takeClause 26 = .ok (.iload_n 1, 1) := by decide +kernel
theorem dX2_takeClause_27 : decode cX2_takeClause 27 = .ok (.iload_n 2, 1) := by decide +kernel
theorem dX2_takeClause_28 : decode cX2_takeClause 28 = .ok (.iastore, 1) := by decide +kernel
theorem dX2_takeClause_29 : decode cX2_takeClause 29 = .ok (.aload_n 0, 1) := by decide +kernel
theorem dX2_takeClause_30 : decode cX2_takeClause 30 = .ok (.invokevirtual 31, 3) := by decide +kernel
theorem dX2_takeClause_33 : decode cX2_takeClause 33 = .ok (.iload_n 2, 1) := by decide +kernel
theorem dX2_takeClause_34 : decode cX2_takeClause 34 = .ok (.invokestatic 49, 3) := by decide +kernel
theorem dX2_takeClause_37 : decode cX2_takeClause 37 = .ok (.astore_n 3, 1) := by decide +kernel
theorem dX2_takeClause_38 : decode cX2_takeClause 38 = .ok (.iconst 0, 1) := by decide +kernel
theorem dX2_takeClause_39 : decode cX2_takeClause 39 = .ok (.istore 4, 2) := by decide +kernel
theorem dX2_takeClause_41 : decode cX2_takeClause 41 = .ok (.iload 4, 2) := by decide +kernel
theorem dX2_takeClause_43 : decode cX2_takeClause 43 = .ok (.aload_n 3, 1) := by decide +kernel
theorem dX2_takeClause_44 : decode cX2_takeClause 44 = .ok (.invokevirtual 53, 3) := by decide +kernel
theorem dX2_takeClause_47 : decode cX2_takeClause 47 = .ok (.if_icmp .ge 68, 3) := by decide +kernel
theorem dX2_takeClause_50 : decode cX2_takeClause 50 = .ok (.iload 4, 2) := by decide +kernel
theorem dX2_takeClause_52 : decode cX2_takeClause 52 = .ok (.iconst 3, 1) := by decide +kernel
theorem dX2_takeClause_53 : decode cX2_takeClause 53 = .ok (.if_icmp .ge 62, 3) := by decide +kernel
theorem dX2_takeClause_56 : decode cX2_takeClause 56 = .ok (.aload_n 0, 1) := by decide +kernel
theorem dX2_takeClause_57 : decode cX2_takeClause 57 = .ok (.invokevirtual 57, 3) := by decide +kernel
theorem dX2_takeClause_60 : decode cX2_takeClause 60 = .ok (.istore 5, 2) := by decide +kernel
theorem dX2_takeClause_62 : decode cX2_takeClause 62 = .ok (.iload 5, 2) := by decide +kernel
theorem dX2_takeClause_64 : decode cX2_takeClause 64 = .ok (.aload_n 3, 1) := by decide +kernel
theorem dX2_takeClause_65 : decode cX2_takeClause 65 = .ok (.iload 4, 2) := by decide +kernel
theorem dX2_takeClause_67 : decode cX2_takeClause 67 = .ok (.invokevirtual 60, 3) := by decide +kernel
theorem dX2_takeClause_70 : decode cX2_takeClause 70 = .ok (.invokestatic 64, 3) := by decide +kernel
theorem dX2_takeClause_73 : decode cX2_takeClause 73 = .ok (.if_icmp .lt 17, 3) := by decide +kernel
theorem dX2_takeClause_76 : decode cX2_takeClause 76 = .ok (.iload 5, 2) := by decide +kernel
theorem dX2_takeClause_78 : decode cX2_takeClause 78 = .ok (.aload_n 3, 1) := by decide +kernel
theorem dX2_takeClause_79 : decode cX2_takeClause 79 = .ok (.iload 4, 2) := by decide +kernel
theorem dX2_takeClause_81 : decode cX2_takeClause 81 = .ok (.invokevirtual 60, 3) := by decide +kernel
theorem dX2_takeClause_84 : decode cX2_takeClause 84 = .ok (.invokestatic 68, 3) := by decide +kernel
theorem dX2_takeClause_87 : decode cX2_takeClause 87 = .ok (.if_icmp .le 5, 3) := by decide +kernel
theorem dX2_takeClause_90 : decode cX2_takeClause 90 = .ok (.iconst 0, 1) := by decide +kernel
theorem dX2_takeClause_91 : decode cX2_takeClause 91 = .ok (.ireturn, 1) := by decide +kernel
theorem dX2_takeClause_92 : decode cX2_takeClause 92 = .ok (.aload_n 0, 1) := by decide +kernel
theorem dX2_takeClause_93 : decode cX2_takeClause 93 = .ok (.getfield 18, 3) := by decide +kernel
theorem dX2_takeClause_96 : decode cX2_takeClause 96 = .ok (.iload_n 1, 1) := by decide +kernel
theorem dX2_takeClause_97 : decode cX2_takeClause 97 = .ok (.iconst 3, 1) := by decide +kernel
theorem dX2_takeClause_98 : decode cX2_takeClause 98 = .ok (.imul, 1) := by decide +kernel
theorem dX2_takeClause_99 : decode cX2_takeClause 99 = .ok (.iload 4, 2) := by decide +kernel
theorem dX2_takeClause_101 : decode cX2_takeClause 101 = .ok (.iadd, 1) := by decide +kernel
theorem dX2_takeClause_102 : decode cX2_takeClause 102 = .ok (.iload 5, 2) := by decide +kernel
theorem dX2_takeClause_104 : decode cX2_takeClause 104 = .ok (.iastore, 1) := by decide +kernel
theorem dX2_takeClause_105 : decode cX2_takeClause 105 = .ok (.aload_n 0, 1) := by decide +kernel
theorem dX2_takeClause_106 : decode cX2_takeClause 106 = .ok (.invokevirtual 31, 3) := by decide +kernel
theorem dX2_takeClause_109 : decode cX2_takeClause 109 = .ok (.iinc 4 1, 3) := by decide +kernel
theorem dX2_takeClause_112 : decode cX2_takeClause 112 = .ok (.goto (-71), 3) := by decide +kernel
theorem dX2_takeClause_115 : decode cX2_takeClause 115 = .ok (.iconst 1, 1) := by decide +kernel
theorem dX2_takeClause_116 : decode cX2_takeClause 116 = .ok (.ireturn, 1) := by decide +kernel
theorem dX2_kindOfToken_0 : decode cX2_kindOfToken 0 = .ok (.iconst 0, 1) := by decide +kernel
theorem dX2_kindOfToken_1 : decode cX2_kindOfToken 1 = .ok (.istore_n 1, 1) := by decide +kernel
theorem dX2_kindOfToken_2 : decode cX2_kindOfToken 2 = .ok (.iload_n 1, 1) := by decide +kernel
theorem dX2_kindOfToken_3 : decode cX2_kindOfToken 3 = .ok (.bipush 7, 2) := by decide +kernel
theorem dX2_kindOfToken_5 : decode cX2_kindOfToken 5 = .ok (.if_icmp .ge 22, 3) := by decide +kernel
theorem dX2_kindOfToken_8 : decode cX2_kindOfToken 8 = .ok (.aload_n 0, 1) := by decide +kernel
theorem dX2_kindOfToken_9 : decode cX2_kindOfToken 9 = .ok (.iload_n 1, 1) := by decide +kernel
theorem dX2_kindOfToken_10 : decode cX2_kindOfToken 10 = .ok (.invokestatic 71, 3) := by decide +kernel
theorem dX2_kindOfToken_13 : decode cX2_kindOfToken 13 = .ok (.invokevirtual 74, 3) := by decide +kernel
theorem dX2_kindOfToken_16 : decode cX2_kindOfToken 16 = .ok (.ifCond .eq 5, 3) := by decide +kernel
theorem dX2_kindOfToken_19 : decode cX2_kindOfToken 19 = .ok (.iload_n 1, 1) := by decide +kernel
theorem dX2_kindOfToken_20 : decode cX2_kindOfToken 20 = .ok (.ireturn, 1) := by decide +kernel
theorem dX2_kindOfToken_21 : decode cX2_kindOfToken 21 = .ok (.iinc 1 1, 3) := by decide +kernel
theorem dX2_kindOfToken_24 : decode cX2_kindOfToken 24 = .ok (.goto (-22), 3) := by decide +kernel
theorem dX2_kindOfToken_27 : decode cX2_kindOfToken 27 = .ok (.iconst (-1), 1) := by decide +kernel
theorem dX2_kindOfToken_28 : decode cX2_kindOfToken 28 = .ok (.ireturn, 1) := by decide +kernel
theorem dX2_tokenIs_0 : decode cX2_tokenIs 0 = .ok (.aload_n 0, 1) := by decide +kernel
theorem dX2_tokenIs_1 : decode cX2_tokenIs 1 = .ok (.getfield 28, 3) := by decide +kernel
theorem dX2_tokenIs_4 : decode cX2_tokenIs 4 = .ok (.aload_n 0, 1) := by decide +kernel
theorem dX2_tokenIs_5 : decode cX2_tokenIs 5 = .ok (.getfield 38, 3) := by decide +kernel
theorem dX2_tokenIs_8 : decode cX2_tokenIs 8 = .ok (.isub, 1) := by decide +kernel
theorem dX2_tokenIs_9 : decode cX2_tokenIs 9 = .ok (.aload_n 1, 1) := by decide +kernel
theorem dX2_tokenIs_10 : decode cX2_tokenIs 10 = .ok (.invokevirtual 53, 3) := by decide +kernel
theorem dX2_tokenIs_13 : decode cX2_tokenIs 13 = .ok (.if_icmp .eq 5, 3) := by decide +kernel
theorem dX2_tokenIs_16 : decode cX2_tokenIs 16 = .ok (.iconst 0, 1) := by decide +kernel
theorem dX2_tokenIs_17 : decode cX2_tokenIs 17 = .ok (.ireturn, 1) := by decide +kernel
theorem dX2_tokenIs_18 : decode cX2_tokenIs 18 = .ok (.iconst 0, 1) := by decide +kernel
theorem dX2_tokenIs_19 : decode cX2_tokenIs 19 = .ok (.istore_n 2, 1) := by decide +kernel
theorem dX2_tokenIs_20 : decode cX2_tokenIs 20 = .ok (.iload_n 2, 1) := by decide +kernel
theorem dX2_tokenIs_21 : decode cX2_tokenIs 21 = .ok (.aload_n 1, 1) := by decide +kernel
theorem dX2_tokenIs_22 : decode cX2_tokenIs 22 = .ok (.invokevirtual 53, 3) := by decide +kernel
theorem dX2_tokenIs_25 : decode cX2_tokenIs 25 = .ok (.if_icmp .ge 29, 3) := by decide +kernel
theorem dX2_tokenIs_28 : decode cX2_tokenIs 28 = .ok (.aload_n 0, 1) := by decide +kernel
theorem dX2_tokenIs_29 : decode cX2_tokenIs 29 = .ok (.aload_n 0, 1) := by decide +kernel
theorem dX2_tokenIs_30 : decode cX2_tokenIs 30 = .ok (.getfield 38, 3) := by decide +kernel
theorem dX2_tokenIs_33 : decode cX2_tokenIs 33 = .ok (.iload_n 2, 1) := by decide +kernel
theorem dX2_tokenIs_34 : decode cX2_tokenIs 34 = .ok (.iadd, 1) := by decide +kernel
theorem dX2_tokenIs_35 : decode cX2_tokenIs 35 = .ok (.invokevirtual 41, 3) := by decide +kernel
theorem dX2_tokenIs_38 : decode cX2_tokenIs 38 = .ok (.aload_n 1, 1) := by decide +kernel
theorem dX2_tokenIs_39 : decode cX2_tokenIs 39 = .ok (.iload_n 2, 1) := by decide +kernel
theorem dX2_tokenIs_40 : decode cX2_tokenIs 40 = .ok (.invokevirtual 60, 3) := by decide +kernel
theorem dX2_tokenIs_43 : decode cX2_tokenIs 43 = .ok (.if_icmp .eq 5, 3) := by decide +kernel
theorem dX2_tokenIs_46 : decode cX2_tokenIs 46 = .ok (.iconst 0, 1) := by decide +kernel
theorem dX2_tokenIs_47 : decode cX2_tokenIs 47 = .ok (.ireturn, 1) := by decide +kernel
theorem dX2_tokenIs_48 : decode cX2_tokenIs 48 = .ok (.iinc 2 1, 3) := by decide +kernel
theorem dX2_tokenIs_51 : decode cX2_tokenIs 51 = .ok (.goto (-31), 3) := by decide +kernel
theorem dX2_tokenIs_54 : decode cX2_tokenIs 54 = .ok (.iconst 1, 1) := by decide +kernel
theorem dX2_tokenIs_55 : decode cX2_tokenIs 55 = .ok (.ireturn, 1) := by decide +kernel
theorem dX2_numberOfToken_0 : decode cX2_numberOfToken 0 = .ok (.aload_n 0, 1) := by decide +kernel
theorem dX2_numberOfToken_1 : decode cX2_numberOfToken 1 = .ok (.aload_n 0, 1) := by decide +kernel
theorem dX2_numberOfToken_2 : decode cX2_numberOfToken 2 = .ok (.getfield 38, 3) := by decide +kernel
theorem dX2_numberOfToken_5 : decode cX2_numberOfToken 5 = .ok (.invokevirtual 41, 3) := by decide +kernel
theorem dX2_numberOfToken_8 : decode cX2_numberOfToken 8 = .ok (.invokestatic 78, 3) := by decide +kernel
theorem dX2_numberOfToken_11 : decode cX2_numberOfToken 11 = .ok (.ifCond .eq 16, 3) := by decide +kernel
theorem dX2_numberOfToken_14 : decode cX2_numberOfToken 14 = .ok (.aload_n 0, 1) := by decide +kernel
theorem dX2_numberOfToken_15 : decode cX2_numberOfToken 15 = .ok (.getfield 28, 3) := by decide +kernel
theorem dX2_numberOfToken_18 : decode cX2_numberOfToken 18 = .ok (.aload_n 0, 1) := by decide +kernel
theorem dX2_numberOfToken_19 : decode cX2_numberOfToken 19 = .ok (.getfield 38, 3) := by decide +kernel
theorem dX2_numberOfToken_22 : decode cX2_numberOfToken 22 = .ok (.isub, 1) := by decide +kernel
theorem dX2_numberOfToken_23 : decode cX2_numberOfToken 23 = .ok (.iconst 4, 1) := by decide +kernel
theorem dX2_numberOfToken_24 : decode cX2_numberOfToken 24 = .ok (.if_icmp .le 5, 3) := by decide +kernel
theorem dX2_numberOfToken_27 : decode cX2_numberOfToken 27 = .ok (.iconst (-1), 1) := by decide +kernel
theorem dX2_numberOfToken_28 : decode cX2_numberOfToken 28 = .ok (.ireturn, 1) := by decide +kernel
theorem dX2_numberOfToken_29 : decode cX2_numberOfToken 29 = .ok (.iconst 0, 1) := by decide +kernel
theorem dX2_numberOfToken_30 : decode cX2_numberOfToken 30 = .ok (.istore_n 1, 1) := by decide +kernel
theorem dX2_numberOfToken_31 : decode cX2_numberOfToken 31 = .ok (.aload_n 0, 1) := by decide +kernel
theorem dX2_numberOfToken_32 : decode cX2_numberOfToken 32 = .ok (.getfield 38, 3) := by decide +kernel
theorem dX2_numberOfToken_35 : decode cX2_numberOfToken 35 = .ok (.istore_n 2, 1) := by decide +kernel
theorem dX2_numberOfToken_36 : decode cX2_numberOfToken 36 = .ok (.iload_n 2, 1) := by decide +kernel
theorem dX2_numberOfToken_37 : decode cX2_numberOfToken 37 = .ok (.aload_n 0, 1) := by decide +kernel
theorem dX2_numberOfToken_38 : decode cX2_numberOfToken 38 = .ok (.getfield 28, 3) := by decide +kernel
theorem dX2_numberOfToken_41 : decode cX2_numberOfToken 41 = .ok (.if_icmp .ge 23, 3) := by decide +kernel
theorem dX2_numberOfToken_44 : decode cX2_numberOfToken 44 = .ok (.iload_n 1, 1) := by decide +kernel
theorem dX2_numberOfToken_45 : decode cX2_numberOfToken 45 = .ok (.bipush 10, 2) := by decide +kernel
theorem dX2_numberOfToken_47 : decode cX2_numberOfToken 47 = .ok (.imul, 1) := by decide +kernel
theorem dX2_numberOfToken_48 : decode cX2_numberOfToken 48 = .ok (.aload_n 0, 1) := by decide +kernel
theorem dX2_numberOfToken_49 : decode cX2_numberOfToken 49 = .ok (.iload_n 2, 1) := by decide +kernel
theorem dX2_numberOfToken_50 : decode cX2_numberOfToken 50 = .ok (.invokevirtual 41, 3) := by decide +kernel
theorem dX2_numberOfToken_53 : decode cX2_numberOfToken 53 = .ok (.iadd, 1) := by decide +kernel
theorem dX2_numberOfToken_54 : decode cX2_numberOfToken 54 = .ok (.bipush 48, 2) := by decide +kernel
theorem dX2_numberOfToken_56 : decode cX2_numberOfToken 56 = .ok (.isub, 1) := by decide +kernel
theorem dX2_numberOfToken_57 : decode cX2_numberOfToken 57 = .ok (.istore_n 1, 1) := by decide +kernel
theorem dX2_numberOfToken_58 : decode cX2_numberOfToken 58 = .ok (.iinc 2 1, 3) := by decide +kernel
theorem dX2_numberOfToken_61 : decode cX2_numberOfToken 61 = .ok (.goto (-25), 3) := by decide +kernel
theorem dX2_numberOfToken_64 : decode cX2_numberOfToken 64 = .ok (.iload_n 1, 1) := by decide +kernel
theorem dX2_numberOfToken_65 : decode cX2_numberOfToken 65 = .ok (.ireturn, 1) := by decide +kernel
theorem dX2_nextToken_0 : decode cX2_nextToken 0 = .ok (.aload_n 0, 1) := by decide +kernel
theorem dX2_nextToken_1 : decode cX2_nextToken 1 = .ok (.getfield 28, 3) := by decide +kernel
theorem dX2_nextToken_4 : decode cX2_nextToken 4 = .ok (.istore_n 1, 1) := by decide +kernel
theorem dX2_nextToken_5 : decode cX2_nextToken 5 = .ok (.iload_n 1, 1) := by decide +kernel
theorem dX2_nextToken_6 : decode cX2_nextToken 6 = .ok (.aload_n 0, 1) := by decide +kernel
theorem dX2_nextToken_7 : decode cX2_nextToken 7 = .ok (.getfield 21, 3) := by decide +kernel
theorem dX2_nextToken_10 : decode cX2_nextToken 10 = .ok (.if_icmp .ge 19, 3) := by decide +kernel
theorem dX2_nextToken_13 : decode cX2_nextToken 13 = .ok (.aload_n 0, 1) := by decide +kernel
theorem dX2_nextToken_14 : decode cX2_nextToken 14 = .ok (.iload_n 1, 1) := by decide +kernel
theorem dX2_nextToken_15 : decode cX2_nextToken 15 = .ok (.invokevirtual 41, 3) := by decide +kernel
theorem dX2_nextToken_18 : decode cX2_nextToken 18 = .ok (.bipush 32, 2) := by decide +kernel
theorem dX2_nextToken_20 : decode cX2_nextToken 20 = .ok (.if_icmp .ne 9, 3) := by decide +kernel
theorem dX2_nextToken_23 : decode cX2_nextToken 23 = .ok (.iinc 1 1, 3) := by decide +kernel
theorem dX2_nextToken_26 : decode cX2_nextToken 26 = .ok (.goto (-21), 3) := by decide +kernel
theorem dX2_nextToken_29 : decode cX2_nextToken 29 = .ok (.aload_n 0, 1) := by decide +kernel
theorem dX2_nextToken_30 : decode cX2_nextToken 30 = .ok (.iload_n 1, 1) := by decide +kernel
theorem dX2_nextToken_31 : decode cX2_nextToken 31 = .ok (.putfield 38, 3) := by decide +kernel
theorem dX2_nextToken_34 : decode cX2_nextToken 34 = .ok (.iload_n 1, 1) := by decide +kernel
theorem dX2_nextToken_35 : decode cX2_nextToken 35 = .ok (.aload_n 0, 1) := by decide +kernel
theorem dX2_nextToken_36 : decode cX2_nextToken 36 = .ok (.getfield 21, 3) := by decide +kernel
theorem dX2_nextToken_39 : decode cX2_nextToken 39 = .ok (.if_icmp .ge 6, 3) := by decide +kernel
theorem dX2_nextToken_42 : decode cX2_nextToken 42 = .ok (.iinc 1 1, 3) := by decide +kernel
theorem dX2_nextToken_45 : decode cX2_nextToken 45 = .ok (.iload_n 1, 1) := by decide +kernel
theorem dX2_nextToken_46 : decode cX2_nextToken 46 = .ok (.aload_n 0, 1) := by decide +kernel
theorem dX2_nextToken_47 : decode cX2_nextToken 47 = .ok (.getfield 21, 3) := by decide +kernel
theorem dX2_nextToken_50 : decode cX2_nextToken 50 = .ok (.if_icmp .ge 28, 3) := by decide +kernel
theorem dX2_nextToken_53 : decode cX2_nextToken 53 = .ok (.aload_n 0, 1) := by decide +kernel
theorem dX2_nextToken_54 : decode cX2_nextToken 54 = .ok (.aload_n 0, 1) := by decide +kernel
theorem dX2_nextToken_55 : decode cX2_nextToken 55 = .ok (.getfield 38, 3) := by decide +kernel
theorem dX2_nextToken_58 : decode cX2_nextToken 58 = .ok (.invokevirtual 41, 3) := by decide +kernel
theorem dX2_nextToken_61 : decode cX2_nextToken 61 = .ok (.aload_n 0, 1) := by decide +kernel
theorem dX2_nextToken_62 : decode cX2_nextToken 62 = .ok (.iload_n 1, 1) := by decide +kernel
theorem dX2_nextToken_63 : decode cX2_nextToken 63 = .ok (.invokevirtual 41, 3) := by decide +kernel
theorem dX2_nextToken_66 : decode cX2_nextToken 66 = .ok (.invokestatic 81, 3) := by decide +kernel
theorem dX2_nextToken_69 : decode cX2_nextToken 69 = .ok (.ifCond .eq 9, 3) := by decide +kernel
theorem dX2_nextToken_72 : decode cX2_nextToken 72 = .ok (.iinc 1 1, 3) := by decide +kernel
theorem dX2_nextToken_75 : decode cX2_nextToken 75 = .ok (.goto (-30), 3) := by decide +kernel
theorem dX2_nextToken_78 : decode cX2_nextToken 78 = .ok (.aload_n 0, 1) := by decide +kernel
theorem dX2_nextToken_79 : decode cX2_nextToken 79 = .ok (.iload_n 1, 1) := by decide +kernel
theorem dX2_nextToken_80 : decode cX2_nextToken 80 = .ok (.putfield 28, 3) := by decide +kernel
theorem dX2_nextToken_83 : decode cX2_nextToken 83 = .ok (.return_, 1) := by decide +kernel
theorem dX2_letterAt_0 : decode cX2_letterAt 0 = .ok (.iload_n 1, 1) := by decide +kernel
theorem dX2_letterAt_1 : decode cX2_letterAt 1 = .ok (.ifCond .lt 27, 3) := by decide +kernel
theorem dX2_letterAt_4 : decode cX2_letterAt 4 = .ok (.iload_n 1, 1) := by decide +kernel
theorem dX2_letterAt_5 : decode cX2_letterAt 5 = .ok (.aload_n 0, 1) := by decide +kernel
theorem dX2_letterAt_6 : decode cX2_letterAt 6 = .ok (.getfield 21, 3) := by decide +kernel
theorem dX2_letterAt_9 : decode cX2_letterAt 9 = .ok (.if_icmp .ge 19, 3) := by decide +kernel
theorem dX2_letterAt_12 : decode cX2_letterAt 12 = .ok (.iload_n 1, 1) := by decide +kernel
theorem dX2_letterAt_13 : decode cX2_letterAt 13 = .ok (.sipush 200, 3) := by decide +kernel
theorem dX2_letterAt_16 : decode cX2_letterAt 16 = .ok (.if_icmp .ge 12, 3) := by decide +kernel
theorem dX2_letterAt_19 : decode cX2_letterAt 19 = .ok (.aload_n 0, 1) := by decide +kernel
theorem dX2_letterAt_20 : decode cX2_letterAt 20 = .ok (.getfield 11, 3) := by decide +kernel
theorem dX2_letterAt_23 : decode cX2_letterAt 23 = .ok (.iload_n 1, 1) := by decide +kernel
theorem dX2_letterAt_24 : decode cX2_letterAt 24 = .ok (.iaload, 1) := by decide +kernel
theorem dX2_letterAt_25 : decode cX2_letterAt 25 = .ok (.goto 4, 3) := by decide +kernel
theorem dX2_letterAt_28 : decode cX2_letterAt 28 = .ok (.iconst (-1), 1) := by decide +kernel
theorem dX2_letterAt_29 : decode cX2_letterAt 29 = .ok (.ireturn, 1) := by decide +kernel
theorem dX2_areOfOneRow_0 : decode cX2_areOfOneRow 0 = .ok (.iload_n 0, 1) := by decide +kernel
theorem dX2_areOfOneRow_1 : decode cX2_areOfOneRow 1 = .ok (.invokestatic 78, 3) := by decide +kernel
theorem dX2_areOfOneRow_4 : decode cX2_areOfOneRow 4 = .ok (.ifCond .eq 10, 3) := by decide +kernel
theorem dX2_areOfOneRow_7 : decode cX2_areOfOneRow 7 = .ok (.iload_n 1, 1) := by decide +kernel
theorem dX2_areOfOneRow_8 : decode cX2_areOfOneRow 8 = .ok (.invokestatic 78, 3) := by decide +kernel
theorem dX2_areOfOneRow_11 : decode cX2_areOfOneRow 11 = .ok (.ifCond .ne 17, 3) := by decide +kernel
theorem dX2_areOfOneRow_14 : decode cX2_areOfOneRow 14 = .ok (.iload_n 0, 1) := by decide +kernel
theorem dX2_areOfOneRow_15 : decode cX2_areOfOneRow 15 = .ok (.invokestatic 85, 3) := by decide +kernel
theorem dX2_areOfOneRow_18 : decode cX2_areOfOneRow 18 = .ok (.ifCond .eq 14, 3) := by decide +kernel
theorem dX2_areOfOneRow_21 : decode cX2_areOfOneRow 21 = .ok (.iload_n 1, 1) := by decide +kernel
theorem dX2_areOfOneRow_22 : decode cX2_areOfOneRow 22 = .ok (.invokestatic 85, 3) := by decide +kernel
theorem dX2_areOfOneRow_25 : decode cX2_areOfOneRow 25 = .ok (.ifCond .eq 7, 3) := by decide +kernel
theorem dX2_areOfOneRow_28 : decode cX2_areOfOneRow 28 = .ok (.iconst 1, 1) := by decide +kernel
theorem dX2_areOfOneRow_29 : decode cX2_areOfOneRow 29 = .ok (.goto 4, 3) := by decide +kernel
theorem dX2_areOfOneRow_32 : decode cX2_areOfOneRow 32 = .ok (.iconst 0, 1) := by decide +kernel
theorem dX2_areOfOneRow_33 : decode cX2_areOfOneRow 33 = .ok (.ireturn, 1) := by decide +kernel
theorem dX2_isDigit_0 : decode cX2_isDigit 0 = .ok (.iload_n 0, 1) := by decide +kernel
theorem dX2_isDigit_1 : decode cX2_isDigit 1 = .ok (.bipush 48, 2) := by decide +kernel
theorem dX2_isDigit_3 : decode cX2_isDigit 3 = .ok (.if_icmp .lt 13, 3) := by decide +kernel
theorem dX2_isDigit_6 : decode cX2_isDigit 6 = .ok (.iload_n 0, 1) := by decide +kernel
theorem dX2_isDigit_7 : decode cX2_isDigit 7 = .ok (.bipush 57, 2) := by decide +kernel
theorem dX2_isDigit_9 : decode cX2_isDigit 9 = .ok (.if_icmp .gt 7, 3) := by decide +kernel
theorem dX2_isDigit_12 : decode cX2_isDigit 12 = .ok (.iconst 1, 1) := by decide +kernel
theorem dX2_isDigit_13 : decode cX2_isDigit 13 = .ok (.goto 4, 3) := by decide +kernel
theorem dX2_isDigit_16 : decode cX2_isDigit 16 = .ok (.iconst 0, 1) := by decide +kernel
theorem dX2_isDigit_17 : decode cX2_isDigit 17 = .ok (.ireturn, 1) := by decide +kernel
theorem dX2_isSmall_0 : decode cX2_isSmall 0 = .ok (.iload_n 0, 1) := by decide +kernel
theorem dX2_isSmall_1 : decode cX2_isSmall 1 = .ok (.bipush 97, 2) := by decide +kernel
theorem dX2_isSmall_3 : decode cX2_isSmall 3 = .ok (.if_icmp .lt 13, 3) := by decide +kernel
theorem dX2_isSmall_6 : decode cX2_isSmall 6 = .ok (.iload_n 0, 1) := by decide +kernel
theorem dX2_isSmall_7 : decode cX2_isSmall 7 = .ok (.bipush 122, 2) := by decide +kernel
theorem dX2_isSmall_9 : decode cX2_isSmall 9 = .ok (.if_icmp .gt 7, 3) := by decide +kernel
theorem dX2_isSmall_12 : decode cX2_isSmall 12 = .ok (.iconst 1, 1) := by decide +kernel
theorem dX2_isSmall_13 : decode cX2_isSmall 13 = .ok (.goto 4, 3) := by decide +kernel
theorem dX2_isSmall_16 : decode cX2_isSmall 16 = .ok (.iconst 0, 1) := by decide +kernel
theorem dX2_isSmall_17 : decode cX2_isSmall 17 = .ok (.ireturn, 1) := by decide +kernel
theorem dX2_wordOf_0 : decode cX2_wordOf 0 = .ok (.iload_n 0, 1) := by decide +kernel
theorem dX2_wordOf_1 : decode cX2_wordOf 1 = .ok (.tableswitch 57 0 5 #[39, 42, 45, 48, 51, 54], 39) := by decide +kernel
theorem dX2_wordOf_40 : decode cX2_wordOf 40 = .ok (.ldc 88, 2) := by decide +kernel
theorem dX2_wordOf_42 : decode cX2_wordOf 42 = .ok (.areturn, 1) := by decide +kernel
theorem dX2_wordOf_43 : decode cX2_wordOf 43 = .ok (.ldc 90, 2) := by decide +kernel
theorem dX2_wordOf_45 : decode cX2_wordOf 45 = .ok (.areturn, 1) := by decide +kernel
theorem dX2_wordOf_46 : decode cX2_wordOf 46 = .ok (.ldc 92, 2) := by decide +kernel
theorem dX2_wordOf_48 : decode cX2_wordOf 48 = .ok (.areturn, 1) := by decide +kernel
theorem dX2_wordOf_49 : decode cX2_wordOf 49 = .ok (.ldc 94, 2) := by decide +kernel
theorem dX2_wordOf_51 : decode cX2_wordOf 51 = .ok (.areturn, 1) := by decide +kernel
theorem dX2_wordOf_52 : decode cX2_wordOf 52 = .ok (.ldc 96, 2) := by decide +kernel
theorem dX2_wordOf_54 : decode cX2_wordOf 54 = .ok (.areturn, 1) := by decide +kernel
theorem dX2_wordOf_55 : decode cX2_wordOf 55 = .ok (.ldc 98, 2) := by decide +kernel
theorem dX2_wordOf_57 : decode cX2_wordOf 57 = .ok (.areturn, 1) := by decide +kernel
theorem dX2_wordOf_58 : decode cX2_wordOf 58 = .ok (.ldc 100, 2) := by decide +kernel
theorem dX2_wordOf_60 : decode cX2_wordOf 60 = .ok (.areturn, 1) := by decide +kernel
theorem dX2_formOf_0 : decode cX2_formOf 0 = .ok (.iload_n 0, 1) := by decide +kernel
theorem dX2_formOf_1 : decode cX2_formOf 1 = .ok (.tableswitch 57 0 5 #[39, 42, 45, 48, 51, 54], 39) := by decide +kernel
theorem dX2_formOf_40 : decode cX2_formOf 40 = .ok (.ldc 102, 2) := by decide +kernel
theorem dX2_formOf_42 : decode cX2_formOf 42 = .ok (.areturn, 1) := by decide +kernel
theorem dX2_formOf_43 : decode cX2_formOf 43 = .ok (.ldc 104, 2) := by decide +kernel
theorem dX2_formOf_45 : decode cX2_formOf 45 = .ok (.areturn, 1) := by decide +kernel
theorem dX2_formOf_46 : decode cX2_formOf 46 = .ok (.ldc 106, 2) := by decide +kernel
theorem dX2_formOf_48 : decode cX2_formOf 48 = .ok (.areturn, 1) := by decide +kernel
theorem dX2_formOf_49 : decode cX2_formOf 49 = .ok (.ldc 108, 2) := by decide +kernel
theorem dX2_formOf_51 : decode cX2_formOf 51 = .ok (.areturn, 1) := by decide +kernel
theorem dX2_formOf_52 : decode cX2_formOf 52 = .ok (.ldc 110, 2) := by decide +kernel
theorem dX2_formOf_54 : decode cX2_formOf 54 = .ok (.areturn, 1) := by decide +kernel
theorem dX2_formOf_55 : decode cX2_formOf 55 = .ok (.ldc 112, 2) := by decide +kernel
theorem dX2_formOf_57 : decode cX2_formOf 57 = .ok (.areturn, 1) := by decide +kernel
theorem dX2_formOf_58 : decode cX2_formOf 58 = .ok (.ldc 108, 2) := by decide +kernel
theorem dX2_formOf_60 : decode cX2_formOf 60 = .ok (.areturn, 1) := by decide +kernel
theorem dX2_leastOf_0 : decode cX2_leastOf 0 = .ok (.iload_n 0, 1) := by decide +kernel
theorem dX2_leastOf_1 : decode cX2_leastOf 1 = .ok (.bipush 78, 2) := by decide +kernel
theorem dX2_leastOf_3 : decode cX2_leastOf 3 = .ok (.if_icmp .ne 7, 3) := by decide +kernel
theorem dX2_leastOf_6 : decode cX2_leastOf 6 = .ok (.iconst 1, 1) := by decide +kernel
theorem dX2_leastOf_7 : decode cX2_leastOf 7 = .ok (.goto 4, 3) := by decide +kernel
theorem dX2_leastOf_10 : decode cX2_leastOf 10 = .ok (.iconst 0, 1) := by decide +kernel
theorem dX2_leastOf_11 : decode cX2_leastOf 11 = .ok (.ireturn, 1) := by decide +kernel
theorem dX2_mostOf_0 : decode cX2_mostOf 0 = .ok (.iload_n 0, 1) := by decide +kernel
theorem dX2_mostOf_1 : decode cX2_mostOf 1 = .ok (.lookupswitch 45 #[(73, 35), (78, 42), (86, 38)], 35) := by decide +kernel
theorem dX2_mostOf_36 : decode cX2_mostOf 36 = .ok (.bipush 7, 2) := by decide +kernel
theorem dX2_mostOf_38 : decode cX2_mostOf 38 = .ok (.ireturn, 1) := by decide +kernel
theorem dX2_mostOf_39 : decode cX2_mostOf 39 = .ok (.sipush 9999, 3) := by decide +kernel
theorem dX2_mostOf_42 : decode cX2_mostOf 42 = .ok (.ireturn, 1) := by decide +kernel
theorem dX2_mostOf_43 : decode cX2_mostOf 43 = .ok (.bipush 9, 2) := by decide +kernel
theorem dX2_mostOf_45 : decode cX2_mostOf 45 = .ok (.ireturn, 1) := by decide +kernel
theorem dX2_mostOf_46 : decode cX2_mostOf 46 = .ok (.iconst 5, 1) := by decide +kernel
theorem dX2_mostOf_47 : decode cX2_mostOf 47 = .ok (.ireturn, 1) := by decide +kernel
theorem dX3_init_0 : decode cX3_init 0 = .ok (.aload_n 0, 1) := by decide +kernel
theorem dX3_init_1 : decode cX3_init 1 = .ok (.invokespecial 1, 3) := by decide +kernel
theorem dX3_init_4 : decode cX3_init 4 = .ok (.aload_n 0, 1) := by decide +kernel
theorem dX3_init_5 : decode cX3_init 5 = .ok (.new 7, 3) := by decide +kernel
theorem dX3_init_8 : decode cX3_init 8 = .ok (.dup, 1) := by decide +kernel
theorem dX3_init_9 : decode cX3_init 9 = .ok (.invokespecial 9, 3) := by decide +kernel
theorem dX3_init_12 : decode cX3_init 12 = .ok (.putfield 10, 3) := by decide +kernel
theorem dX3_init_15 : decode cX3_init 15 = .ok (.aload_n 0, 1) := by decide +kernel
theorem dX3_init_16 : decode cX3_init 16 = .ok (.bipush 8, 2) := by decide +kernel
theorem dX3_init_18 : decode cX3_init 18 = .ok (.newarray .int, 2) := by decide +kernel
theorem dX3_init_20 : decode cX3_init 20 = .ok (.putfield 16, 3) := by decide +kernel
theorem dX3_init_23 : decode cX3_init 23 = .ok (.aload_n 0, 1) := by decide +kernel
theorem dX3_init_24 : decode cX3_init 24 = .ok (.bipush 8, 2) := by decide +kernel
theorem dX3_init_26 : decode cX3_init 26 = .ok (.newarray .int, 2) := by decide +kernel
theorem dX3_init_28 : decode cX3_init 28 = .ok (.putfield 20, 3) := by decide +kernel
theorem dX3_init_31 : decode cX3_init 31 = .ok (.aload_n 0, 1) := by decide +kernel
theorem dX3_init_32 : decode cX3_init 32 = .ok (.bipush 6, 2) := by decide +kernel
theorem dX3_init_34 : decode cX3_init 34 = .ok (.anewarray 23, 3) := by decide +kernel
theorem dX3_init_37 : decode cX3_init 37 = .ok (.putfield 25, 3) := by decide +kernel
theorem dX3_init_40 : decode cX3_init 40 = .ok (.aload_n 0, 1) := by decide +kernel
theorem dX3_init_41 : decode cX3_init 41 = .ok (.sipush 512, 3) := by decide +kernel
theorem dX3_init_44 : decode cX3_init 44 = .ok (.anewarray 29, 3) := by decide +kernel
theorem dX3_init_47 : decode cX3_init 47 = .ok (.putfield 31, 3) := by decide +kernel
theorem dX3_init_50 : decode cX3_init 50 = .ok (.iconst 0, 1) := by decide +kernel
theorem dX3_init_51 : decode cX3_init 51 = .ok (.istore_n 1, 1) := by decide +kernel
theorem dX3_init_52 : decode cX3_init 52 = .ok (.iload_n 1, 1) := by decide +kernel
theorem dX3_init_53 : decode cX3_init 53 = .ok (.bipush 6, 2) := by decide +kernel
theorem dX3_init_55 : decode cX3_init 55 = .ok (.if_icmp .ge 23, 3) := by decide +kernel
theorem dX3_init_58 : decode cX3_init 58 = .ok (.aload_n 0, 1) := by decide +kernel
theorem dX3_init_59 : decode cX3_init 59 = .ok (.getfield 25, 3) := by decide +kernel
theorem dX3_init_62 : decode cX3_init 62 = .ok (.iload_n 1, 1) := by decide +kernel
theorem dX3_init_63 : decode cX3_init 63 = .ok (.new 23, 3) := by decide +kernel
theorem dX3_init_66 : decode cX3_init 66 = .ok (.dup, 1) := by decide +kernel
theorem dX3_init_67 : decode cX3_init 67 = .ok (.iload_n 1, 1) := by decide +kernel
theorem dX3_init_68 : decode cX3_init 68 = .ok (.invokespecial 35, 3) := by decide +kernel
theorem dX3_init_71 : decode cX3_init 71 = .ok (.aastore, 1) := by decide +kernel
theorem dX3_init_72 : decode cX3_init 72 = .ok (.iinc 1 1, 3) := by decide +kernel
theorem dX3_init_75 : decode cX3_init 75 = .ok (.goto (-23), 3) := by decide +kernel
theorem dX3_init_78 : decode cX3_init 78 = .ok (.aload_n 0, 1) := by decide +kernel
theorem dX3_init_79 : decode cX3_init 79 = .ok (.invokevirtual 38, 3) := by decide +kernel
theorem dX3_init_82 : decode cX3_init 82 = .ok (.return_, 1) := by decide +kernel
theorem dX3_write_0 : decode cX3_write 0 = .ok (.iload_n 1, 1) := by decide +kernel
theorem dX3_write_1 : decode cX3_write 1 = .ok (.ifCond .lt 10, 3) := by decide +kernel
theorem dX3_write_4 : decode cX3_write 4 = .ok (.iload_n 1, 1) := by decide +kernel
theorem dX3_write_5 : decode cX3_write 5 = .ok (.sipush 255, 3) := by decide +kernel
theorem dX3_write_8 : decode cX3_write 8 = .ok (.if_icmp .le 6, 3) := by decide +kernel
theorem dX3_write_11 : decode cX3_write 11 = .ok (.bipush (-3), 2) := by decide +kernel
theorem dX3_write_13 : decode cX3_write 13 = .ok (.ireturn, 1) := by decide +kernel
theorem dX3_write_14 : decode cX3_write 14 = .ok (.aload_n 0, 1) := by decide +kernel
theorem dX3_write_15 : decode cX3_write 15 = .ok (.getfield 10, 3) := by decide +kernel
theorem dX3_write_18 : decode cX3_write 18 = .ok (.getfield 41, 3) := by decide +kernel
theorem dX3_write_21 : decode cX3_write 21 = .ok (.sipush 200, 3) := by decide +kernel
theorem dX3_write_24 : decode cX3_write 24 = .ok (.if_icmp .lt 6, 3) := by decide +kernel
theorem dX3_write_27 : decode cX3_write 27 = .ok (.bipush (-5), 2) := by decide +kernel
theorem dX3_write_29 : decode cX3_write 29 = .ok (.ireturn, 1) := by decide +kernel
theorem dX3_write_30 : decode cX3_write 30 = .ok (.aload_n 0, 1) := by decide +kernel
theorem dX3_write_31 : decode cX3_write 31 = .ok (.getfield 10, 3) := by decide +kernel
theorem dX3_write_34 : decode cX3_write 34 = .ok (.iload_n 1, 1) := by decide +kernel
theorem dX3_write_35 : decode cX3_write 35 = .ok (.invokevirtual 45, 3) := by decide +kernel
theorem dX3_write_38 : decode cX3_write 38 = .ok (.aload_n 0, 1) := by decide +kernel
theorem dX3_write_39 : decode cX3_write 39 = .ok (.getfield 10, 3) := by decide +kernel
theorem dX3_write_42 : decode cX3_write 42 = .ok (.getfield 41, 3) := by decide +kernel
theorem dX3_write_45 : decode cX3_write 45 = .ok (.ireturn, 1) := by decide +kernel
theorem dX3_erase_0 : decode cX3_erase 0 = .ok (.aload_n 0, 1) := by decide +kernel
theorem dX3_erase_1 : decode cX3_erase 1 = .ok (.getfield 10, 3) := by decide +kernel
theorem dX3_erase_4 : decode cX3_erase 4 = .ok (.getfield 41, 3) := by decide +kernel
theorem dX3_erase_7 : decode cX3_erase 7 = .ok (.istore_n 1, 1) := by decide +kernel
theorem dX3_erase_8 : decode cX3_erase 8 = .ok (.aload_n 0, 1) := by decide +kernel
theorem dX3_erase_9 : decode cX3_erase 9 = .ok (.getfield 10, 3) := by decide +kernel
theorem dX3_erase_12 : decode cX3_erase 12 = .ok (.iconst 0, 1) := by decide +kernel
theorem dX3_erase_13 : decode cX3_erase 13 = .ok (.putfield 41, 3) := by decide +kernel
theorem dX3_erase_16 : decode cX3_erase 16 = .ok (.iload_n 1, 1) := by decide +kernel
theorem dX3_erase_17 : decode cX3_erase 17 = .ok (.ireturn, 1) := by decide +kernel
theorem dX3_fault_0 : decode cX3_fault 0 = .ok (.aload_n 0, 1) := by decide +kernel
theorem dX3_fault_1 : decode cX3_fault 1 = .ok (.getfield 10, 3) := by decide +kernel
theorem dX3_fault_4 : decode cX3_fault 4 = .ok (.invokevirtual 48, 3) := by decide +kernel
theorem dX3_fault_7 : decode cX3_fault 7 = .ok (.ireturn, 1) := by decide +kernel
theorem dX3_tell_0 : decode cX3_tell 0 = .ok (.aload_n 0, 1) := by decide +kernel
theorem dX3_tell_1 : decode cX3_tell 1 = .ok (.getfield 10, 3) := by decide +kernel
theorem dX3_tell_4 : decode cX3_tell 4 = .ok (.invokevirtual 48, 3) := by decide +kernel
theorem dX3_tell_7 : decode cX3_tell 7 = .ok (.iconst (-1), 1) := by decide +kernel
theorem dX3_tell_8 : decode cX3_tell 8 = .ok (.if_icmp .eq 6, 3) := by decide +kernel
theorem dX3_tell_11 : decode cX3_tell 11 = .ok (.bipush (-4), 2) := by decide +kernel
theorem dX3_tell_13 : decode cX3_tell 13 = .ok (.ireturn, 1) := by decide +kernel
theorem dX3_tell_14 : decode cX3_tell 14 = .ok (.aload_n 0, 1) := by decide +kernel
theorem dX3_tell_15 : decode cX3_tell 15 = .ok (.getfield 10, 3) := by decide +kernel
theorem dX3_tell_18 : decode cX3_tell 18 = .ok (.getfield 52, 3) := by decide +kernel
theorem dX3_tell_21 : decode cX3_tell 21 = .ok (.istore_n 1, 1) := by decide +kernel
theorem dX3_tell_22 : decode cX3_tell 22 = .ok (.iconst 0, 1) := by decide +kernel
theorem dX3_tell_23 : decode cX3_tell 23 = .ok (.istore_n 2, 1) := by decide +kernel
theorem dX3_tell_24 : decode cX3_tell 24 = .ok (.iload_n 2, 1) := by decide +kernel
theorem dX3_tell_25 : decode cX3_tell 25 = .ok (.iload_n 1, 1) := by decide +kernel
theorem dX3_tell_26 : decode cX3_tell 26 = .ok (.if_icmp .ge 14, 3) := by decide +kernel
theorem dX3_tell_29 : decode cX3_tell 29 = .ok (.aload_n 0, 1) := by decide +kernel
theorem dX3_tell_30 : decode cX3_tell 30 = .ok (.iload_n 2, 1) := by decide +kernel
theorem dX3_tell_31 : decode cX3_tell 31 = .ok (.invokevirtual 55, 3) := by decide +kernel
theorem dX3_tell_34 : decode cX3_tell 34 = .ok (.iinc 2 1, 3) := by decide +kernel
theorem dX3_tell_37 : decode cX3_tell 37 = .ok (.goto (-13), 3) := by decide +kernel
theorem dX3_tell_40 : decode cX3_tell 40 = .ok (.aload_n 0, 1) := by decide +kernel
theorem dX3_tell_41 : decode cX3_tell 41 = .ok (.getfield 10, 3) := by decide +kernel
theorem dX3_tell_44 : decode cX3_tell 44 = .ok (.iconst 0, 1) := by decide +kernel
theorem dX3_tell_45 : decode cX3_tell 45 = .ok (.putfield 41, 3) := by decide +kernel
theorem dX3_tell_48 : decode cX3_tell 48 = .ok (.iload_n 1, 1) := by decide +kernel
theorem dX3_tell_49 : decode cX3_tell 49 = .ok (.ireturn, 1) := by decide +kernel
theorem dX3_item_0 : decode cX3_item 0 = .ok (.iload_n 1, 1) := by decide +kernel
theorem dX3_item_1 : decode cX3_item 1 = .ok (.invokestatic 58, 3) := by decide +kernel
theorem dX3_item_4 : decode cX3_item 4 = .ok (.ifCond .ne 6, 3) := by decide +kernel
theorem dX3_item_7 : decode cX3_item 7 = .ok (.bipush (-2), 2) := by decide +kernel
theorem dX3_item_9 : decode cX3_item 9 = .ok (.ireturn, 1) := by decide +kernel
theorem dX3_item_10 : decode cX3_item 10 = .ok (.iload_n 2, 1) := by decide +kernel
theorem dX3_item_11 : decode cX3_item 11 = .ok (.lookupswitch 39 #[(0, 25), (1, 32)], 25) := by decide +kernel
theorem dX3_item_36 : decode cX3_item 36 = .ok (.aload_n 0, 1) := by decide +kernel
theorem dX3_item_37 : decode cX3_item 37 = .ok (.getfield 16, 3) := by decide +kernel
theorem dX3_item_40 : decode cX3_item 40 = .ok (.iload_n 1, 1) := by decide +kernel
theorem dX3_item_41 : decode cX3_item 41 = .ok (.iaload, 1) := by decide +kernel
theorem dX3_item_42 : decode cX3_item 42 = .ok (.ireturn, 1) := by decide +kernel
theorem dX3_item_43 : decode cX3_item 43 = .ok (.aload_n 0, 1) := by decide +kernel
theorem dX3_item_44 : decode cX3_item 44 = .ok (.getfield 20, 3) := by decide +kernel
theorem dX3_item_47 : decode cX3_item 47 = .ok (.iload_n 1, 1) := by decide +kernel
theorem dX3_item_48 : decode cX3_item 48 = .ok (.iaload, 1) := by decide +kernel
theorem dX3_item_49 : decode cX3_item 49 = .ok (.ireturn, 1) := by decide +kernel
theorem dX3_item_50 : decode cX3_item 50 = .ok (.bipush (-3), 2) := by decide +kernel
theorem dX3_item_52 : decode cX3_item 52 = .ok (.ireturn, 1) := by decide +kernel
theorem dX3_put_0 : decode cX3_put 0 = .ok (.iload_n 1, 1) := by decide +kernel
theorem dX3_put_1 : decode cX3_put 1 = .ok (.invokestatic 58, 3) := by decide +kernel
theorem dX3_put_4 : decode cX3_put 4 = .ok (.ifCond .ne 6, 3) := by decide +kernel
theorem dX3_put_7 : decode cX3_put 7 = .ok (.bipush (-2), 2) := by decide +kernel
theorem dX3_put_9 : decode cX3_put 9 = .ok (.ireturn, 1) := by decide +kernel
theorem dX3_put_10 : decode cX3_put 10 = .ok (.iload_n 2, 1) := by decide +kernel
theorem dX3_put_11 : decode cX3_put 11 = .ok (.invokestatic 62, 3) := by decide +kernel
theorem dX3_put_14 : decode cX3_put 14 = .ok (.ifCond .ne 6, 3) := by decide +kernel
theorem dX3_put_17 : decode cX3_put 17 = .ok (.bipush (-3), 2) := by decide +kernel
theorem dX3_put_19 : decode cX3_put 19 = .ok (.ireturn, 1) := by decide +kernel
theorem dX3_put_20 : decode cX3_put 20 = .ok (.aload_n 0, 1) := by decide +kernel
theorem dX3_put_21 : decode cX3_put 21 = .ok (.iconst 3, 1) := by decide +kernel
theorem dX3_put_22 : decode cX3_put 22 = .ok (.invokevirtual 65, 3) := by decide +kernel
theorem dX3_put_25 : decode cX3_put 25 = .ok (.ifCond .le 6, 3) := by decide +kernel
theorem dX3_put_28 : decode cX3_put 28 = .ok (.bipush (-4), 2) := by decide +kernel
theorem dX3_put_30 : decode cX3_put 30 = .ok (.ireturn, 1) := by decide +kernel
theorem dX3_put_31 : decode cX3_put 31 = .ok (.aload_n 0, 1) := by decide +kernel
theorem dX3_put_32 : decode cX3_put 32 = .ok (.getfield 69, 3) := by decide +kernel
theorem dX3_put_35 : decode cX3_put 35 = .ok (.sipush 512, 3) := by decide +kernel
theorem dX3_put_38 : decode cX3_put 38 = .ok (.if_icmp .lt 6, 3) := by decide +kernel
theorem dX3_put_41 : decode cX3_put 41 = .ok (.bipush (-5), 2) := by decide +kernel
theorem dX3_put_43 : decode cX3_put 43 = .ok (.ireturn, 1) := by decide +kernel
theorem dX3_put_44 : decode cX3_put 44 = .ok (.aload_n 0, 1) := by decide +kernel
theorem dX3_put_45 : decode cX3_put 45 = .ok (.invokevirtual 72, 3) := by decide +kernel
theorem dX3_put_48 : decode cX3_put 48 = .ok (.iload_n 1, 1) := by decide +kernel
theorem dX3_put_49 : decode cX3_put 49 = .ok (.iload_n 2, 1) := by decide +kernel
theorem dX3_put_50 : decode cX3_put 50 = .ok (.invokevirtual 76, 3) := by decide +kernel
theorem dX3_put_53 : decode cX3_put 53 = .ok (.aload_n 0, 1) := by decide +kernel
theorem dX3_put_54 : decode cX3_put 54 = .ok (.iload_n 1, 1) := by decide +kernel
theorem dX3_put_55 : decode cX3_put 55 = .ok (.iload_n 2, 1) := by decide +kernel
theorem dX3_put_56 : decode cX3_put 56 = .ok (.invokevirtual 80, 3) := by decide +kernel
theorem dX3_put_59 : decode cX3_put 59 = .ok (.aload_n 0, 1) := by decide +kernel
theorem dX3_put_60 : decode cX3_put 60 = .ok (.getfield 69, 3) := by decide +kernel
theorem dX3_put_63 : decode cX3_put 63 = .ok (.ireturn, 1) := by decide +kernel
theorem dX3_limit_0 : decode cX3_limit 0 = .ok (.iload_n 1, 1) := by decide +kernel
theorem dX3_limit_1 : decode cX3_limit 1 = .ok (.iconst 1, 1) := by decide +kernel
theorem dX3_limit_2 : decode cX3_limit 2 = .ok (.if_icmp .lt 9, 3) := by decide +kernel
theorem dX3_limit_5 : decode cX3_limit 5 = .ok (.iload_n 1, 1) := by decide +kernel
theorem dX3_limit_6 : decode cX3_limit 6 = .ok (.bipush 9, 2) := by decide +kernel
theorem dX3_limit_8 : decode cX3_limit 8 = .ok (.if_icmp .le 6, 3) := by decide +kernel
theorem dX3_limit_11 : decode cX3_limit 11 = .ok (.bipush (-3), 2) := by decide +kernel
theorem dX3_limit_13 : decode cX3_limit 13 = .ok (.ireturn, 1) := by decide +kernel
theorem dX3_limit_14 : decode cX3_limit 14 = .ok (.aload_n 0, 1) := by decide +kernel
theorem dX3_limit_15 : decode cX3_limit 15 = .ok (.getfield 83, 3) := by decide +kernel
theorem dX3_limit_18 : decode cX3_limit 18 = .ok (.istore_n 2, 1) := by decide +kernel
theorem dX3_limit_19 : decode cX3_limit 19 = .ok (.aload_n 0, 1) := by decide +kernel
theorem dX3_limit_20 : decode cX3_limit 20 = .ok (.iload_n 1, 1) := by decide +kernel
theorem dX3_limit_21 : decode cX3_limit 21 = .ok (.putfield 83, 3) := by decide +kernel
theorem dX3_limit_24 : decode cX3_limit 24 = .ok (.iload_n 2, 1) := by decide +kernel
theorem dX3_limit_25 : decode cX3_limit 25 = .ok (.ireturn, 1) := by decide +kernel
theorem dX3_begin_0 : decode cX3_begin 0 = .ok (.iload_n 1, 1) := by decide +kernel
theorem dX3_begin_1 : decode cX3_begin 1 = .ok (.invokestatic 86, 3) := by decide +kernel
theorem dX3_begin_4 : decode cX3_begin 4 = .ok (.ifCond .ne 6, 3) := by decide +kernel
theorem dX3_begin_7 : decode cX3_begin 7 = .ok (.bipush (-2), 2) := by decide +kernel
theorem dX3_begin_9 : decode cX3_begin 9 = .ok (.ireturn, 1) := by decide +kernel
theorem dX3_begin_10 : decode cX3_begin 10 = .ok (.aload_n 0, 1) := by decide +kernel
theorem dX3_begin_11 : decode cX3_begin 11 = .ok (.getfield 25, 3) := by decide +kernel
theorem dX3_begin_14 : decode cX3_begin 14 = .ok (.iload_n 1, 1) := by decide +kernel
theorem dX3_begin_15 : decode cX3_begin 15 = .ok (.aaload, 1) := by decide +kernel
theorem dX3_begin_16 : decode cX3_begin 16 = .ok (.astore_n 2, 1) := by decide +kernel
theorem dX3_begin_17 : decode cX3_begin 17 = .ok (.aload_n 2, 1) := by decide +kernel
theorem dX3_begin_18 : decode cX3_begin 18 = .ok (.getfield 89, 3) := by decide +kernel
theorem dX3_begin_21 : decode cX3_begin 21 = .ok (.ifCond .eq 6, 3) := by decide +kernel
theorem dX3_begin_24 : decode cX3_begin 24 = .ok (.bipush (-4), 2) := by decide +kernel
theorem dX3_begin_26 : decode cX3_begin 26 = .ok (.ireturn, 1) := by decide +kernel
theorem dX3_begin_27 : decode cX3_begin 27 = .ok (.aload_n 0, 1) := by decide +kernel
theorem dX3_begin_28 : decode cX3_begin 28 = .ok (.dup, 1) := by decide +kernel
theorem dX3_begin_29 : decode cX3_begin 29 = .ok (.getfield 92, 3) := by decide +kernel
theorem dX3_begin_32 : decode cX3_begin 32 = .ok (.iconst 1, 1) := by decide +kernel
theorem dX3_begin_33 : decode cX3_begin 33 = .ok (.iadd, 1) := by decide +kernel
theorem dX3_begin_34 : decode cX3_begin 34 = .ok (.putfield 92, 3) := by decide +kernel
theorem dX3_begin_37 : decode cX3_begin 37 = .ok (.aload_n 2, 1) := by decide +kernel
theorem dX3_begin_38 : decode cX3_begin 38 = .ok (.aload_n 0, 1) := by decide +kernel
theorem dX3_begin_39 : decode cX3_begin 39 = .ok (.getfield 69, 3) := by decide +kernel
theorem dX3_begin_42 : decode cX3_begin 42 = .ok (.aload_n 0, 1) := by decide +kernel
theorem dX3_begin_43 : decode cX3_begin 43 = .ok (.getfield 92, 3) := by decide +kernel
theorem dX3_begin_46 : decode cX3_begin 46 = .ok (.iconst 0, 1) := by decide +kernel
theorem dX3_begin_47 : decode cX3_begin 47 = .ok (.invokevirtual 95, 3) := by decide +kernel
theorem dX3_begin_50 : decode cX3_begin 50 = .ok (.aload_n 2, 1) := by decide +kernel
theorem dX3_begin_51 : decode cX3_begin 51 = .ok (.getfield 99, 3) := by decide +kernel
theorem dX3_begin_54 : decode cX3_begin 54 = .ok (.ireturn, 1) := by decide +kernel
theorem dX3_retry_0 : decode cX3_retry 0 = .ok (.iload_n 1, 1) := by decide +kernel
theorem dX3_retry_1 : decode cX3_retry 1 = .ok (.invokestatic 86, 3) := by decide +kernel
theorem dX3_retry_4 : decode cX3_retry 4 = .ok (.ifCond .ne 6, 3) := by decide +kernel
theorem dX3_retry_7 : decode cX3_retry 7 = .ok (.bipush (-2), 2) := by decide +kernel
theorem dX3_retry_9 : decode cX3_retry 9 = .ok (.ireturn, 1) := by decide +kernel
theorem dX3_retry_10 : decode cX3_retry 10 = .ok (.aload_n 0, 1) := by decide +kernel
theorem dX3_retry_11 : decode cX3_retry 11 = .ok (.getfield 25, 3) := by decide +kernel
theorem dX3_retry_14 : decode cX3_retry 14 = .ok (.iload_n 1, 1) := by decide +kernel
theorem dX3_retry_15 : decode cX3_retry 15 = .ok (.aaload, 1) := by decide +kernel
theorem dX3_retry_16 : decode cX3_retry 16 = .ok (.astore_n 2, 1) := by decide +kernel
theorem dX3_retry_17 : decode cX3_retry 17 = .ok (.aload_n 2, 1) := by decide +kernel
theorem dX3_retry_18 : decode cX3_retry 18 = .ok (.getfield 102, 3) := by decide +kernel
theorem dX3_retry_21 : decode cX3_retry 21 = .ok (.ifCond .ne 6, 3) := by decide +kernel
theorem dX3_retry_24 : decode cX3_retry 24 = .ok (.bipush (-4), 2) := by decide +kernel
theorem dX3_retry_26 : decode cX3_retry 26 = .ok (.ireturn, 1) := by decide +kernel
theorem dX3_retry_27 : decode cX3_retry 27 = .ok (.aload_n 2, 1) := by decide +kernel
theorem dX3_retry_28 : decode cX3_retry 28 = .ok (.aload_n 0, 1) := by decide +kernel
theorem dX3_retry_29 : decode cX3_retry 29 = .ok (.getfield 69, 3) := by decide +kernel
theorem dX3_retry_32 : decode cX3_retry 32 = .ok (.aload_n 2, 1) := by decide +kernel
theorem dX3_retry_33 : decode cX3_retry 33 = .ok (.getfield 99, 3) := by decide +kernel
theorem dX3_retry_36 : decode cX3_retry 36 = .ok (.aload_n 2, 1) := by decide +kernel
theorem dX3_retry_37 : decode cX3_retry 37 = .ok (.getfield 106, 3) := by decide +kernel
theorem dX3_retry_40 : decode cX3_retry 40 = .ok (.iconst 1, 1) := by decide +kernel
theorem dX3_retry_41 : decode cX3_retry 41 = .ok (.iadd, 1) := by decide +kernel
theorem dX3_retry_42 : decode cX3_retry 42 = .ok (.invokevirtual 95, 3) := by decide +kernel
theorem dX3_retry_45 : decode cX3_retry 45 = .ok (.aload_n 2, 1) := by decide +kernel
theorem dX3_retry_46 : decode cX3_retry 46 = .ok (.getfield 106, 3) := by decide +kernel
theorem dX3_retry_49 : decode cX3_retry 49 = .ok (.ireturn, 1) := by decide +kernel
theorem dX3_read_0 : decode cX3_read 0 = .ok (.iload_n 1, 1) := by decide +kernel
theorem dX3_read_1 : decode cX3_read 1 = .ok (.invokestatic 86, 3) := by decide +kernel
theorem dX3_read_4 : decode cX3_read 4 = .ok (.ifCond .eq 10, 3) := by decide +kernel
theorem dX3_read_7 : decode cX3_read 7 = .ok (.iload_n 2, 1) := by decide +kernel
theorem dX3_read_8 : decode cX3_read 8 = .ok (.invokestatic 58, 3) := by decide +kernel
theorem dX3_read_11 : decode cX3_read 11 = .ok (.ifCond .ne 6, 3) := by decide +kernel
theorem dX3_read_14 : decode cX3_read 14 = .ok (.bipush (-2), 2) := by decide +kernel
theorem dX3_read_16 : decode cX3_read 16 = .ok (.ireturn, 1) := by decide +kernel
theorem dX3_read_17 : decode cX3_read 17 = .ok (.aload_n 0, 1) := by decide +kernel
theorem dX3_read_18 : decode cX3_read 18 = .ok (.getfield 25, 3) := by decide +kernel
theorem dX3_read_21 : decode cX3_read 21 = .ok (.iload_n 1, 1) := by decide +kernel
theorem dX3_read_22 : decode cX3_read 22 = .ok (.aaload, 1) := by decide +kernel
theorem dX3_read_23 : decode cX3_read 23 = .ok (.astore_n 3, 1) := by decide +kernel
theorem dX3_read_24 : decode cX3_read 24 = .ok (.aload_n 3, 1) := by decide +kernel
theorem dX3_read_25 : decode cX3_read 25 = .ok (.getfield 89, 3) := by decide +kernel
theorem dX3_read_28 : decode cX3_read 28 = .ok (.iconst 1, 1) := by decide +kernel
theorem dX3_read_29 : decode cX3_read 29 = .ok (.if_icmp .eq 6, 3) := by decide +kernel
theorem dX3_read_32 : decode cX3_read 32 = .ok (.bipush (-4), 2) := by decide +kernel
theorem dX3_read_34 : decode cX3_read 34 = .ok (.ireturn, 1) := by decide +kernel
theorem dX3_read_35 : decode cX3_read 35 = .ok (.aload_n 3, 1) := by decide +kernel
theorem dX3_read_36 : decode cX3_read 36 = .ok (.getfield 109, 3) := by decide +kernel
theorem dX3_read_39 : decode cX3_read 39 = .ok (.iload_n 2, 1) := by decide +kernel
theorem dX3_read_40 : decode cX3_read 40 = .ok (.invokestatic 112, 3) := by decide +kernel
theorem dX3_read_43 : decode cX3_read 43 = .ok (.ifCond .eq 10, 3) := by decide +kernel
theorem dX3_read_46 : decode cX3_read 46 = .ok (.aload_n 3, 1) := by decide +kernel
theorem dX3_read_47 : decode cX3_read 47 = .ok (.getfield 116, 3) := by decide +kernel
theorem dX3_read_50 : decode cX3_read 50 = .ok (.iload_n 2, 1) := by decide +kernel
theorem dX3_read_51 : decode cX3_read 51 = .ok (.iaload, 1) := by decide +kernel
theorem dX3_read_52 : decode cX3_read 52 = .ok (.ireturn, 1) := by decide +kernel
theorem dX3_read_53 : decode cX3_read 53 = .ok (.aload_n 3, 1) := by decide +kernel
theorem dX3_read_54 : decode cX3_read 54 = .ok (.getfield 119, 3) := by decide +kernel
theorem dX3_read_57 : decode cX3_read 57 = .ok (.iload_n 2, 1) := by decide +kernel
theorem dX3_read_58 : decode cX3_read 58 = .ok (.invokestatic 112, 3) := by decide +kernel
theorem dX3_read_61 : decode cX3_read 61 = .ok (.ifCond .ne 20, 3) := by decide +kernel
theorem dX3_read_64 : decode cX3_read 64 = .ok (.aload_n 3, 1) := by decide +kernel
theorem dX3_read_65 : decode cX3_read 65 = .ok (.iload_n 2, 1) := by decide +kernel
theorem dX3_read_66 : decode cX3_read 66 = .ok (.aload_n 0, 1) := by decide +kernel
theorem dX3_read_67 : decode cX3_read 67 = .ok (.getfield 16, 3) := by decide +kernel
theorem dX3_read_70 : decode cX3_read 70 = .ok (.iload_n 2, 1) := by decide +kernel
theorem dX3_read_71 : decode cX3_read 71 = .ok (.iaload, 1) := by decide +kernel
theorem dX3_read_72 : decode cX3_read 72 = .ok (.aload_n 0, 1) := by decide +kernel
theorem dX3_read_73 : decode cX3_read 73 = .ok (.getfield 20, 3) := by decide +kernel
theorem dX3_read_76 : decode cX3_read 76 = .ok (.iload_n 2, 1) := by decide +kernel
theorem dX3_read_77 : decode cX3_read 77 = .ok (.iaload, 1) := by decide +kernel
theorem dX3_read_78 : decode cX3_read 78 = .ok (.invokevirtual 122, 3) := by decide +kernel
theorem dX3_read_81 : decode cX3_read 81 = .ok (.aload_n 3, 1) := by decide +kernel
theorem dX3_read_82 : decode cX3_read 82 = .ok (.getfield 125, 3) := by decide +kernel
theorem dX3_read_85 : decode cX3_read 85 = .ok (.iload_n 2, 1) := by decide +kernel
