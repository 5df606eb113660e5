theorem dX3_foretell_94 : decode cX3_foretell 94 = .ok (.ireturn, 1) := by decide +kernel
theorem dX3_isFailure_0 : decode cX3_isFailure 0 = .ok (.iload_n 0, 1) := by decide +kernel
theorem dX3_isFailure_1 : decode cX3_isFailure 1 = .ok (.bipush (-11), 2) := by decide +kernel
theorem dX3_isFailure_3 : decode cX3_isFailure 3 = .ok (.if_icmp .eq 15, 3) := by decide +kernel
theorem dX3_isFailure_6 : decode cX3_isFailure 6 = .ok (.iload_n 0, 1) := by decide +kernel
theorem dX3_isFailure_7 : decode cX3_isFailure 7 = .ok (.bipush (-12), 2) := by decide +kernel
theorem dX3_isFailure_9 : decode cX3_isFailure 9 = .ok (.if_icmp .eq 9, 3) := by decide +kernel
theorem dX3_isFailure_12 : decode cX3_isFailure 12 = .ok (.iload_n 0, 1) := by decide +kernel
theorem dX3_isFailure_13 : decode cX3_isFailure 13 = .ok (.bipush (-13), 2) := by decide +kernel
theorem dX3_isFailure_15 : decode cX3_isFailure 15 = .ok (.if_icmp .ne 7, 3) := by decide +kernel
theorem dX3_isFailure_18 : decode cX3_isFailure 18 = .ok (.iconst 1, 1) := by decide +kernel
theorem dX3_isFailure_19 : decode cX3_isFailure 19 = .ok (.goto 4, 3) := by decide +kernel
theorem dX3_isFailure_22 : decode cX3_isFailure 22 = .ok (.iconst 0, 1) := by decide +kernel
theorem dX3_isFailure_23 : decode cX3_isFailure 23 = .ok (.ireturn, 1) := by decide +kernel
theorem dX3_mustYield_0 : decode cX3_mustYield 0 = .ok (.aload_n 0, 1) := by decide +kernel
theorem dX3_mustYield_1 : decode cX3_mustYield 1 = .ok (.aload_n 1, 1) := by decide +kernel
theorem dX3_mustYield_2 : decode cX3_mustYield 2 = .ok (.invokevirtual 146, 3) := by decide +kernel
theorem dX3_mustYield_5 : decode cX3_mustYield 5 = .ok (.istore_n 2, 1) := by decide +kernel
theorem dX3_mustYield_6 : decode cX3_mustYield 6 = .ok (.aload_n 0, 1) := by decide +kernel
theorem dX3_mustYield_7 : decode cX3_mustYield 7 = .ok (.getfield 25, 3) := by decide +kernel
theorem dX3_mustYield_10 : decode cX3_mustYield 10 = .ok (.astore_n 3, 1) := by decide +kernel
theorem dX3_mustYield_11 : decode cX3_mustYield 11 = .ok (.aload_n 3, 1) := by decide +kernel
theorem dX3_mustYield_12 : decode cX3_mustYield 12 = .ok (.arraylength, 1) := by decide +kernel
theorem dX3_mustYield_13 : decode cX3_mustYield 13 = .ok (.istore 4, 2) := by decide +kernel
theorem dX3_mustYield_15 : decode cX3_mustYield 15 = .ok (.iconst 0, 1) := by decide +kernel
theorem dX3_mustYield_16 : decode cX3_mustYield 16 = .ok (.istore 5, 2) := by decide +kernel
theorem dX3_mustYield_18 : decode cX3_mustYield 18 = .ok (.iload 5, 2) := by decide +kernel
theorem dX3_mustYield_20 : decode cX3_mustYield 20 = .ok (.iload 4, 2) := by decide +kernel
theorem dX3_mustYield_22 : decode cX3_mustYield 22 = .ok (.if_icmp .ge 39, 3) := by decide +kernel
theorem dX3_mustYield_25 : decode cX3_mustYield 25 = .ok (.aload_n 3, 1) := by decide +kernel
theorem dX3_mustYield_26 : decode cX3_mustYield 26 = .ok (.iload 5, 2) := by decide +kernel
theorem dX3_mustYield_28 : decode cX3_mustYield 28 = .ok (.aaload, 1) := by decide +kernel
theorem dX3_mustYield_29 : decode cX3_mustYield 29 = .ok (.astore 6, 2) := by decide +kernel
theorem dX3_mustYield_31 : decode cX3_mustYield 31 = .ok (.iload_n 2, 1) := by decide +kernel
theorem dX3_mustYield_32 : decode cX3_mustYield 32 = .ok (.aload 6, 2) := by decide +kernel
theorem dX3_mustYield_34 : decode cX3_mustYield 34 = .ok (.getfield 265, 3) := by decide +kernel
theorem dX3_mustYield_37 : decode cX3_mustYield 37 = .ok (.invokestatic 112, 3) := by decide +kernel
theorem dX3_mustYield_40 : decode cX3_mustYield 40 = .ok (.ifCond .eq 15, 3) := by decide +kernel
theorem dX3_mustYield_43 : decode cX3_mustYield 43 = .ok (.aload_n 0, 1) := by decide +kernel
theorem dX3_mustYield_44 : decode cX3_mustYield 44 = .ok (.aload 6, 2) := by decide +kernel
theorem dX3_mustYield_46 : decode cX3_mustYield 46 = .ok (.aload_n 1, 1) := by decide +kernel
theorem dX3_mustYield_47 : decode cX3_mustYield 47 = .ok (.invokevirtual 271, 3) := by decide +kernel
theorem dX3_mustYield_50 : decode cX3_mustYield 50 = .ok (.ifCond .eq 5, 3) := by decide +kernel
theorem dX3_mustYield_53 : decode cX3_mustYield 53 = .ok (.iconst 1, 1) := by decide +kernel
theorem dX3_mustYield_54 : decode cX3_mustYield 54 = .ok (.ireturn, 1) := by decide +kernel
theorem dX3_mustYield_55 : decode cX3_mustYield 55 = .ok (.iinc 5 1, 3) := by decide +kernel
theorem dX3_mustYield_58 : decode cX3_mustYield 58 = .ok (.goto (-40), 3) := by decide +kernel
theorem dX3_mustYield_61 : decode cX3_mustYield 61 = .ok (.iconst 0, 1) := by decide +kernel
theorem dX3_mustYield_62 : decode cX3_mustYield 62 = .ok (.ireturn, 1) := by decide +kernel
theorem dX3_goesFirst_0 : decode cX3_goesFirst 0 = .ok (.aload_n 0, 1) := by decide +kernel
theorem dX3_goesFirst_1 : decode cX3_goesFirst 1 = .ok (.aload_n 1, 1) := by decide +kernel
theorem dX3_goesFirst_2 : decode cX3_goesFirst 2 = .ok (.invokevirtual 194, 3) := by decide +kernel
theorem dX3_goesFirst_5 : decode cX3_goesFirst 5 = .ok (.aload_n 0, 1) := by decide +kernel
theorem dX3_goesFirst_6 : decode cX3_goesFirst 6 = .ok (.aload_n 2, 1) := by decide +kernel
theorem dX3_goesFirst_7 : decode cX3_goesFirst 7 = .ok (.invokevirtual 194, 3) := by decide +kernel
theorem dX3_goesFirst_10 : decode cX3_goesFirst 10 = .ok (.if_icmp .eq 9, 3) := by decide +kernel
theorem dX3_goesFirst_13 : decode cX3_goesFirst 13 = .ok (.aload_n 0, 1) := by decide +kernel
theorem dX3_goesFirst_14 : decode cX3_goesFirst 14 = .ok (.aload_n 1, 1) := by decide +kernel
theorem dX3_goesFirst_15 : decode cX3_goesFirst 15 = .ok (.invokevirtual 194, 3) := by decide +kernel
theorem dX3_goesFirst_18 : decode cX3_goesFirst 18 = .ok (.ireturn, 1) := by decide +kernel
theorem dX3_goesFirst_19 : decode cX3_goesFirst 19 = .ok (.aload_n 1, 1) := by decide +kernel
theorem dX3_goesFirst_20 : decode cX3_goesFirst 20 = .ok (.getfield 99, 3) := by decide +kernel
theorem dX3_goesFirst_23 : decode cX3_goesFirst 23 = .ok (.aload_n 2, 1) := by decide +kernel
theorem dX3_goesFirst_24 : decode cX3_goesFirst 24 = .ok (.getfield 99, 3) := by decide +kernel
theorem dX3_goesFirst_27 : decode cX3_goesFirst 27 = .ok (.if_icmp .ge 7, 3) := by decide +kernel
theorem dX3_goesFirst_30 : decode cX3_goesFirst 30 = .ok (.iconst 1, 1) := by decide +kernel
theorem dX3_goesFirst_31 : decode cX3_goesFirst 31 = .ok (.goto 4, 3) := by decide +kernel
theorem dX3_goesFirst_34 : decode cX3_goesFirst 34 = .ok (.iconst 0, 1) := by decide +kernel
theorem dX3_goesFirst_35 : decode cX3_goesFirst 35 = .ok (.ireturn, 1) := by decide +kernel
theorem dX3_doomAll_0 : decode cX3_doomAll 0 = .ok (.aload_n 0, 1) := by decide +kernel
theorem dX3_doomAll_1 : decode cX3_doomAll 1 = .ok (.getfield 25, 3) := by decide +kernel
theorem dX3_doomAll_4 : decode cX3_doomAll 4 = .ok (.astore_n 2, 1) := by decide +kernel
theorem dX3_doomAll_5 : decode cX3_doomAll 5 = .ok (.aload_n 2, 1) := by decide +kernel
theorem dX3_doomAll_6 : decode cX3_doomAll 6 = .ok (.arraylength, 1) := by decide +kernel
theorem dX3_doomAll_7 : decode cX3_doomAll 7 = .ok (.istore_n 3, 1) := by decide +kernel
theorem dX3_doomAll_8 : decode cX3_doomAll 8 = .ok (.iconst 0, 1) := by decide +kernel
theorem dX3_doomAll_9 : decode cX3_doomAll 9 = .ok (.istore 4, 2) := by decide +kernel
theorem dX3_doomAll_11 : decode cX3_doomAll 11 = .ok (.iload 4, 2) := by decide +kernel
theorem dX3_doomAll_13 : decode cX3_doomAll 13 = .ok (.iload_n 3, 1) := by decide +kernel
theorem dX3_doomAll_14 : decode cX3_doomAll 14 = .ok (.if_icmp .ge 33, 3) := by decide +kernel
theorem dX3_doomAll_17 : decode cX3_doomAll 17 = .ok (.aload_n 2, 1) := by decide +kernel
theorem dX3_doomAll_18 : decode cX3_doomAll 18 = .ok (.iload 4, 2) := by decide +kernel
theorem dX3_doomAll_20 : decode cX3_doomAll 20 = .ok (.aaload, 1) := by decide +kernel
theorem dX3_doomAll_21 : decode cX3_doomAll 21 = .ok (.astore 5, 2) := by decide +kernel
theorem dX3_doomAll_23 : decode cX3_doomAll 23 = .ok (.iload_n 1, 1) := by decide +kernel
theorem dX3_doomAll_24 : decode cX3_doomAll 24 = .ok (.aload 5, 2) := by decide +kernel
theorem dX3_doomAll_26 : decode cX3_doomAll 26 = .ok (.getfield 265, 3) := by decide +kernel
theorem dX3_doomAll_29 : decode cX3_doomAll 29 = .ok (.invokestatic 112, 3) := by decide +kernel
theorem dX3_doomAll_32 : decode cX3_doomAll 32 = .ok (.ifCond .eq 9, 3) := by decide +kernel
theorem dX3_doomAll_35 : decode cX3_doomAll 35 = .ok (.aload 5, 2) := by decide +kernel
theorem dX3_doomAll_37 : decode cX3_doomAll 37 = .ok (.iconst 2, 1) := by decide +kernel
theorem dX3_doomAll_38 : decode cX3_doomAll 38 = .ok (.putfield 89, 3) := by decide +kernel
theorem dX3_doomAll_41 : decode cX3_doomAll 41 = .ok (.iinc 4 1, 3) := by decide +kernel
theorem dX3_doomAll_44 : decode cX3_doomAll 44 = .ok (.goto (-33), 3) := by decide +kernel
theorem dX3_doomAll_47 : decode cX3_doomAll 47 = .ok (.return_, 1) := by decide +kernel
theorem dX3_lose_0 : decode cX3_lose 0 = .ok (.aload_n 0, 1) := by decide +kernel
theorem dX3_lose_1 : decode cX3_lose 1 = .ok (.dup, 1) := by decide +kernel
theorem dX3_lose_2 : decode cX3_lose 2 = .ok (.getfield 223, 3) := by decide +kernel
theorem dX3_lose_5 : decode cX3_lose 5 = .ok (.iconst 1, 1) := by decide +kernel
theorem dX3_lose_6 : decode cX3_lose 6 = .ok (.iadd, 1) := by decide +kernel
theorem dX3_lose_7 : decode cX3_lose 7 = .ok (.putfield 223, 3) := by decide +kernel
theorem dX3_lose_10 : decode cX3_lose 10 = .ok (.iload_n 2, 1) := by decide +kernel
theorem dX3_lose_11 : decode cX3_lose 11 = .ok (.bipush (-12), 2) := by decide +kernel
theorem dX3_lose_13 : decode cX3_lose 13 = .ok (.if_icmp .ne 13, 3) := by decide +kernel
theorem dX3_lose_16 : decode cX3_lose 16 = .ok (.aload_n 0, 1) := by decide +kernel
theorem dX3_lose_17 : decode cX3_lose 17 = .ok (.dup, 1) := by decide +kernel
theorem dX3_lose_18 : decode cX3_lose 18 = .ok (.getfield 226, 3) := by decide +kernel
theorem dX3_lose_21 : decode cX3_lose 21 = .ok (.iconst 1, 1) := by decide +kernel
theorem dX3_lose_22 : decode cX3_lose 22 = .ok (.iadd, 1) := by decide +kernel
theorem dX3_lose_23 : decode cX3_lose 23 = .ok (.putfield 226, 3) := by decide +kernel
theorem dX3_lose_26 : decode cX3_lose 26 = .ok (.iload_n 2, 1) := by decide +kernel
theorem dX3_lose_27 : decode cX3_lose 27 = .ok (.bipush (-13), 2) := by decide +kernel
theorem dX3_lose_29 : decode cX3_lose 29 = .ok (.if_icmp .ne 13, 3) := by decide +kernel
theorem dX3_lose_32 : decode cX3_lose 32 = .ok (.aload_n 0, 1) := by decide +kernel
theorem dX3_lose_33 : decode cX3_lose 33 = .ok (.dup, 1) := by decide +kernel
theorem dX3_lose_34 : decode cX3_lose 34 = .ok (.getfield 229, 3) := by decide +kernel
theorem dX3_lose_37 : decode cX3_lose 37 = .ok (.iconst 1, 1) := by decide +kernel
theorem dX3_lose_38 : decode cX3_lose 38 = .ok (.iadd, 1) := by decide +kernel
theorem dX3_lose_39 : decode cX3_lose 39 = .ok (.putfield 229, 3) := by decide +kernel
theorem dX3_lose_42 : decode cX3_lose 42 = .ok (.aload_n 1, 1) := by decide +kernel
theorem dX3_lose_43 : decode cX3_lose 43 = .ok (.iconst 1, 1) := by decide +kernel
theorem dX3_lose_44 : decode cX3_lose 44 = .ok (.invokevirtual 235, 3) := by decide +kernel
theorem dX3_lose_47 : decode cX3_lose 47 = .ok (.iload_n 2, 1) := by decide +kernel
theorem dX3_lose_48 : decode cX3_lose 48 = .ok (.ireturn, 1) := by decide +kernel
theorem dX3_keep_0 : decode cX3_keep 0 = .ok (.aload_n 0, 1) := by decide +kernel
theorem dX3_keep_1 : decode cX3_keep 1 = .ok (.invokevirtual 72, 3) := by decide +kernel
theorem dX3_keep_4 : decode cX3_keep 4 = .ok (.aload_n 1, 1) := by decide +kernel
theorem dX3_keep_5 : decode cX3_keep 5 = .ok (.iload_n 2, 1) := by decide +kernel
theorem dX3_keep_6 : decode cX3_keep 6 = .ok (.invokevirtual 275, 3) := by decide +kernel
theorem dX3_keep_9 : decode cX3_keep 9 = .ok (.iconst 0, 1) := by decide +kernel
theorem dX3_keep_10 : decode cX3_keep 10 = .ok (.istore_n 3, 1) := by decide +kernel
theorem dX3_keep_11 : decode cX3_keep 11 = .ok (.iload_n 3, 1) := by decide +kernel
theorem dX3_keep_12 : decode cX3_keep 12 = .ok (.bipush 8, 2) := by decide +kernel
theorem dX3_keep_14 : decode cX3_keep 14 = .ok (.if_icmp .ge 31, 3) := by decide +kernel
theorem dX3_keep_17 : decode cX3_keep 17 = .ok (.aload_n 1, 1) := by decide +kernel
theorem dX3_keep_18 : decode cX3_keep 18 = .ok (.getfield 109, 3) := by decide +kernel
theorem dX3_keep_21 : decode cX3_keep 21 = .ok (.iload_n 3, 1) := by decide +kernel
theorem dX3_keep_22 : decode cX3_keep 22 = .ok (.invokestatic 112, 3) := by decide +kernel
theorem dX3_keep_25 : decode cX3_keep 25 = .ok (.ifCond .eq 14, 3) := by decide +kernel
theorem dX3_keep_28 : decode cX3_keep 28 = .ok (.aload_n 0, 1) := by decide +kernel
theorem dX3_keep_29 : decode cX3_keep 29 = .ok (.iload_n 3, 1) := by decide +kernel
theorem dX3_keep_30 : decode cX3_keep 30 = .ok (.aload_n 1, 1) := by decide +kernel
theorem dX3_keep_31 : decode cX3_keep 31 = .ok (.getfield 116, 3) := by decide +kernel
theorem dX3_keep_34 : decode cX3_keep 34 = .ok (.iload_n 3, 1) := by decide +kernel
theorem dX3_keep_35 : decode cX3_keep 35 = .ok (.iaload, 1) := by decide +kernel
theorem dX3_keep_36 : decode cX3_keep 36 = .ok (.invokevirtual 80, 3) := by decide +kernel
theorem dX3_keep_39 : decode cX3_keep 39 = .ok (.iinc 3 1, 3) := by decide +kernel
theorem dX3_keep_42 : decode cX3_keep 42 = .ok (.goto (-31), 3) := by decide +kernel
theorem dX3_keep_45 : decode cX3_keep 45 = .ok (.aload_n 1, 1) := by decide +kernel
theorem dX3_keep_46 : decode cX3_keep 46 = .ok (.iconst 0, 1) := by decide +kernel
theorem dX3_keep_47 : decode cX3_keep 47 = .ok (.invokevirtual 235, 3) := by decide +kernel
theorem dX3_keep_50 : decode cX3_keep 50 = .ok (.aload_n 0, 1) := by decide +kernel
theorem dX3_keep_51 : decode cX3_keep 51 = .ok (.getfield 69, 3) := by decide +kernel
theorem dX3_keep_54 : decode cX3_keep 54 = .ok (.ireturn, 1) := by decide +kernel
theorem dX3_change_0 : decode cX3_change 0 = .ok (.aload_n 0, 1) := by decide +kernel
theorem dX3_change_1 : decode cX3_change 1 = .ok (.getfield 16, 3) := by decide +kernel
theorem dX3_change_4 : decode cX3_change 4 = .ok (.iload_n 1, 1) := by decide +kernel
theorem dX3_change_5 : decode cX3_change 5 = .ok (.iload_n 2, 1) := by decide +kernel
theorem dX3_change_6 : decode cX3_change 6 = .ok (.iastore, 1) := by decide +kernel
theorem dX3_change_7 : decode cX3_change 7 = .ok (.aload_n 0, 1) := by decide +kernel
theorem dX3_change_8 : decode cX3_change 8 = .ok (.getfield 20, 3) := by decide +kernel
theorem dX3_change_11 : decode cX3_change 11 = .ok (.iload_n 1, 1) := by decide +kernel
theorem dX3_change_12 : decode cX3_change 12 = .ok (.aload_n 0, 1) := by decide +kernel
theorem dX3_change_13 : decode cX3_change 13 = .ok (.getfield 69, 3) := by decide +kernel
theorem dX3_change_16 : decode cX3_change 16 = .ok (.iastore, 1) := by decide +kernel
theorem dX3_change_17 : decode cX3_change 17 = .ok (.return_, 1) := by decide +kernel
theorem dX3_sentAt_0 : decode cX3_sentAt 0 = .ok (.aload_n 0, 1) := by decide +kernel
theorem dX3_sentAt_1 : decode cX3_sentAt 1 = .ok (.getfield 25, 3) := by decide +kernel
theorem dX3_sentAt_4 : decode cX3_sentAt 4 = .ok (.astore_n 2, 1) := by decide +kernel
theorem dX3_sentAt_5 : decode cX3_sentAt 5 = .ok (.aload_n 2, 1) := by decide +kernel
theorem dX3_sentAt_6 : decode cX3_sentAt 6 = .ok (.arraylength, 1) := by decide +kernel
theorem dX3_sentAt_7 : decode cX3_sentAt 7 = .ok (.istore_n 3, 1) := by decide +kernel
theorem dX3_sentAt_8 : decode cX3_sentAt 8 = .ok (.iconst 0, 1) := by decide +kernel
theorem dX3_sentAt_9 : decode cX3_sentAt 9 = .ok (.istore 4, 2) := by decide +kernel
theorem dX3_sentAt_11 : decode cX3_sentAt 11 = .ok (.iload 4, 2) := by decide +kernel
theorem dX3_sentAt_13 : decode cX3_sentAt 13 = .ok (.iload_n 3, 1) := by decide +kernel
theorem dX3_sentAt_14 : decode cX3_sentAt 14 = .ok (.if_icmp .ge 40, 3) := by decide +kernel
theorem dX3_sentAt_17 : decode cX3_sentAt 17 = .ok (.aload_n 2, 1) := by decide +kernel
theorem dX3_sentAt_18 : decode cX3_sentAt 18 = .ok (.iload 4, 2) := by decide +kernel
theorem dX3_sentAt_20 : decode cX3_sentAt 20 = .ok (.aaload, 1) := by decide +kernel
theorem dX3_sentAt_21 : decode cX3_sentAt 21 = .ok (.astore 5, 2) := by decide +kernel
theorem dX3_sentAt_23 : decode cX3_sentAt 23 = .ok (.aload 5, 2) := by decide +kernel
theorem dX3_sentAt_25 : decode cX3_sentAt 25 = .ok (.getfield 89, 3) := by decide +kernel
theorem dX3_sentAt_28 : decode cX3_sentAt 28 = .ok (.iconst 3, 1) := by decide +kernel
theorem dX3_sentAt_29 : decode cX3_sentAt 29 = .ok (.if_icmp .ne 19, 3) := by decide +kernel
theorem dX3_sentAt_32 : decode cX3_sentAt 32 = .ok (.aload_n 0, 1) := by decide +kernel
theorem dX3_sentAt_33 : decode cX3_sentAt 33 = .ok (.aload 5, 2) := by decide +kernel
theorem dX3_sentAt_35 : decode cX3_sentAt 35 = .ok (.invokevirtual 279, 3) := by decide +kernel
theorem dX3_sentAt_38 : decode cX3_sentAt 38 = .ok (.iload_n 1, 1) := by decide +kernel
theorem dX3_sentAt_39 : decode cX3_sentAt 39 = .ok (.if_icmp .ne 9, 3) := by decide +kernel
theorem dX3_sentAt_42 : decode cX3_sentAt 42 = .ok (.aload 5, 2) := by decide +kernel
theorem dX3_sentAt_44 : decode cX3_sentAt 44 = .ok (.getfield 265, 3) := by decide +kernel
theorem dX3_sentAt_47 : decode cX3_sentAt 47 = .ok (.ireturn, 1) := by decide +kernel
theorem dX3_sentAt_48 : decode cX3_sentAt 48 = .ok (.iinc 4 1, 3) := by decide +kernel
theorem dX3_sentAt_51 : decode cX3_sentAt 51 = .ok (.goto (-40), 3) := by decide +kernel
theorem dX3_sentAt_54 : decode cX3_sentAt 54 = .ok (.iconst (-1), 1) := by decide +kernel
theorem dX3_sentAt_55 : decode cX3_sentAt 55 = .ok (.ireturn, 1) := by decide +kernel
theorem dX3_sentBefore_0 : decode cX3_sentBefore 0 = .ok (.iconst 0, 1) := by decide +kernel
theorem dX3_sentBefore_1 : decode cX3_sentBefore 1 = .ok (.istore_n 2, 1) := by decide +kernel
theorem dX3_sentBefore_2 : decode cX3_sentBefore 2 = .ok (.aload_n 0, 1) := by decide +kernel
theorem dX3_sentBefore_3 : decode cX3_sentBefore 3 = .ok (.getfield 25, 3) := by decide +kernel
theorem dX3_sentBefore_6 : decode cX3_sentBefore 6 = .ok (.astore_n 3, 1) := by decide +kernel
theorem dX3_sentBefore_7 : decode cX3_sentBefore 7 = .ok (.aload_n 3, 1) := by decide +kernel
theorem dX3_sentBefore_8 : decode cX3_sentBefore 8 = .ok (.arraylength, 1) := by decide +kernel
theorem dX3_sentBefore_9 : decode cX3_sentBefore 9 = .ok (.istore 4, 2) := by decide +kernel
theorem dX3_sentBefore_11 : decode cX3_sentBefore 11 = .ok (.iconst 0, 1) := by decide +kernel
theorem dX3_sentBefore_12 : decode cX3_sentBefore 12 = .ok (.istore 5, 2) := by decide +kernel
theorem dX3_sentBefore_14 : decode cX3_sentBefore 14 = .ok (.iload 5, 2) := by decide +kernel
theorem dX3_sentBefore_16 : decode cX3_sentBefore 16 = .ok (.iload 4, 2) := by decide +kernel
theorem dX3_sentBefore_18 : decode cX3_sentBefore 18 = .ok (.if_icmp .ge 39, 3) := by decide +kernel
theorem dX3_sentBefore_21 : decode cX3_sentBefore 21 = .ok (.aload_n 3, 1) := by decide +kernel
theorem dX3_sentBefore_22 : decode cX3_sentBefore 22 = .ok (.iload 5, 2) := by decide +kernel
theorem dX3_sentBefore_24 : decode cX3_sentBefore 24 = .ok (.aaload, 1) := by decide +kernel
theorem dX3_sentBefore_25 : decode cX3_sentBefore 25 = .ok (.astore 6, 2) := by decide +kernel
theorem dX3_sentBefore_27 : decode cX3_sentBefore 27 = .ok (.aload 6, 2) := by decide +kernel
theorem dX3_sentBefore_29 : decode cX3_sentBefore 29 = .ok (.getfield 89, 3) := by decide +kernel
theorem dX3_sentBefore_32 : decode cX3_sentBefore 32 = .ok (.iconst 3, 1) := by decide +kernel
theorem dX3_sentBefore_33 : decode cX3_sentBefore 33 = .ok (.if_icmp .ne 18, 3) := by decide +kernel
theorem dX3_sentBefore_36 : decode cX3_sentBefore 36 = .ok (.aload 6, 2) := by decide +kernel
theorem dX3_sentBefore_38 : decode cX3_sentBefore 38 = .ok (.getfield 165, 3) := by decide +kernel
theorem dX3_sentBefore_41 : decode cX3_sentBefore 41 = .ok (.aload_n 1, 1) := by decide +kernel
theorem dX3_sentBefore_42 : decode cX3_sentBefore 42 = .ok (.getfield 165, 3) := by decide +kernel
theorem dX3_sentBefore_45 : decode cX3_sentBefore 45 = .ok (.if_icmp .ge 6, 3) := by decide +kernel
theorem dX3_sentBefore_48 : decode cX3_sentBefore 48 = .ok (.iinc 2 1, 3) := by decide +kernel
theorem dX3_sentBefore_51 : decode cX3_sentBefore 51 = .ok (.iinc 5 1, 3) := by decide +kernel
theorem dX3_sentBefore_54 : decode cX3_sentBefore 54 = .ok (.goto (-40), 3) := by decide +kernel
theorem dX3_sentBefore_57 : decode cX3_sentBefore 57 = .ok (.iload_n 2, 1) := by decide +kernel
theorem dX3_sentBefore_58 : decode cX3_sentBefore 58 = .ok (.ireturn, 1) := by decide +kernel
theorem dX3_firstWithoutVote_0 : decode cX3_firstWithoutVote 0 = .ok (.iconst 0, 1) := by decide +kernel
theorem dX3_firstWithoutVote_1 : decode cX3_firstWithoutVote 1 = .ok (.istore_n 2, 1) := by decide +kernel
theorem dX3_firstWithoutVote_2 : decode cX3_firstWithoutVote 2 = .ok (.iload_n 2, 1) := by decide +kernel
theorem dX3_firstWithoutVote_3 : decode cX3_firstWithoutVote 3 = .ok (.bipush 6, 2) := by decide +kernel
theorem dX3_firstWithoutVote_5 : decode cX3_firstWithoutVote 5 = .ok (.if_icmp .ge 39, 3) := by decide +kernel
theorem dX3_firstWithoutVote_8 : decode cX3_firstWithoutVote 8 = .ok (.aload_n 0, 1) := by decide +kernel
theorem dX3_firstWithoutVote_9 : decode cX3_firstWithoutVote 9 = .ok (.iload_n 2, 1) := by decide +kernel
theorem dX3_firstWithoutVote_10 : decode cX3_firstWithoutVote 10 = .ok (.invokevirtual 181, 3) := by decide +kernel
theorem dX3_firstWithoutVote_13 : decode cX3_firstWithoutVote 13 = .ok (.istore_n 3, 1) := by decide +kernel
theorem dX3_firstWithoutVote_14 : decode cX3_firstWithoutVote 14 = .ok (.iload_n 3, 1) := by decide +kernel
theorem dX3_firstWithoutVote_15 : decode cX3_firstWithoutVote 15 = .ok (.invokestatic 86, 3) := by decide +kernel
theorem dX3_firstWithoutVote_18 : decode cX3_firstWithoutVote 18 = .ok (.ifCond .eq 20, 3) := by decide +kernel
theorem dX3_firstWithoutVote_21 : decode cX3_firstWithoutVote 21 = .ok (.aload_n 0, 1) := by decide +kernel
theorem dX3_firstWithoutVote_22 : decode cX3_firstWithoutVote 22 = .ok (.getfield 25, 3) := by decide +kernel
theorem dX3_firstWithoutVote_25 : decode cX3_firstWithoutVote 25 = .ok (.iload_n 3, 1) := by decide +kernel
theorem dX3_firstWithoutVote_26 : decode cX3_firstWithoutVote 26 = .ok (.aaload, 1) := by decide +kernel
theorem dX3_firstWithoutVote_27 : decode cX3_firstWithoutVote 27 = .ok (.getfield 174, 3) := by decide +kernel
theorem dX3_firstWithoutVote_30 : decode cX3_firstWithoutVote 30 = .ok (.iload_n 1, 1) := by decide +kernel
theorem dX3_firstWithoutVote_31 : decode cX3_firstWithoutVote 31 = .ok (.iaload, 1) := by decide +kernel
theorem dX3_firstWithoutVote_32 : decode cX3_firstWithoutVote 32 = .ok (.iconst (-1), 1) := by decide +kernel
theorem dX3_firstWithoutVote_33 : decode cX3_firstWithoutVote 33 = .ok (.if_icmp .ne 5, 3) := by decide +kernel
theorem dX3_firstWithoutVote_36 : decode cX3_firstWithoutVote 36 = .ok (.iload_n 3, 1) := by decide +kernel
theorem dX3_firstWithoutVote_37 : decode cX3_firstWithoutVote 37 = .ok (.ireturn, 1) := by decide +kernel
theorem dX3_firstWithoutVote_38 : decode cX3_firstWithoutVote 38 = .ok (.iinc 2 1, 3) := by decide +kernel
theorem dX3_firstWithoutVote_41 : decode cX3_firstWithoutVote 41 = .ok (.goto (-39), 3) := by decide +kernel
theorem dX3_firstWithoutVote_44 : decode cX3_firstWithoutVote 44 = .ok (.iconst (-1), 1) := by decide +kernel
theorem dX3_firstWithoutVote_45 : decode cX3_firstWithoutVote 45 = .ok (.ireturn, 1) := by decide +kernel
theorem dX3_opinion_0 : decode cX3_opinion 0 = .ok (.aload_n 0, 1) := by decide +kernel
theorem dX3_opinion_1 : decode cX3_opinion 1 = .ok (.aload_n 2, 1) := by decide +kernel
theorem dX3_opinion_2 : decode cX3_opinion 2 = .ok (.invokevirtual 156, 3) := by decide +kernel
theorem dX3_opinion_5 : decode cX3_opinion 5 = .ok (.aload_n 2, 1) := by decide +kernel
theorem dX3_opinion_6 : decode cX3_opinion 6 = .ok (.getfield 119, 3) := by decide +kernel
theorem dX3_opinion_9 : decode cX3_opinion 9 = .ok (.aload_n 0, 1) := by decide +kernel
theorem dX3_opinion_10 : decode cX3_opinion 10 = .ok (.iload_n 1, 1) := by decide +kernel
theorem dX3_opinion_11 : decode cX3_opinion 11 = .ok (.aload_n 2, 1) := by decide +kernel
theorem dX3_opinion_12 : decode cX3_opinion 12 = .ok (.invokevirtual 282, 3) := by decide +kernel
theorem dX3_opinion_15 : decode cX3_opinion 15 = .ok (.iand, 1) := by decide +kernel
theorem dX3_opinion_16 : decode cX3_opinion 16 = .ok (.ior, 1) := by decide +kernel
theorem dX3_opinion_17 : decode cX3_opinion 17 = .ok (.istore_n 3, 1) := by decide +kernel
theorem dX3_opinion_18 : decode cX3_opinion 18 = .ok (.iload_n 3, 1) := by decide +kernel
theorem dX3_opinion_19 : decode cX3_opinion 19 = .ok (.iload_n 1, 1) := by decide +kernel
theorem dX3_opinion_20 : decode cX3_opinion 20 = .ok (.invokestatic 285, 3) := by decide +kernel
theorem dX3_opinion_23 : decode cX3_opinion 23 = .ok (.iand, 1) := by decide +kernel
theorem dX3_opinion_24 : decode cX3_opinion 24 = .ok (.ifCond .ne 7, 3) := by decide +kernel
theorem dX3_opinion_27 : decode cX3_opinion 27 = .ok (.iconst 1, 1) := by decide +kernel
theorem dX3_opinion_28 : decode cX3_opinion 28 = .ok (.goto 4, 3) := by decide +kernel
theorem dX3_opinion_31 : decode cX3_opinion 31 = .ok (.iconst 0, 1) := by decide +kernel
theorem dX3_opinion_32 : decode cX3_opinion 32 = .ok (.ireturn, 1) := by decide +kernel
theorem dX3_promisedBefore_0 : decode cX3_promisedBefore 0 = .ok (.iconst 0, 1) := by decide +kernel
theorem dX3_promisedBefore_1 : decode cX3_promisedBefore 1 = .ok (.istore_n 3, 1) := by decide +kernel
theorem dX3_promisedBefore_2 : decode cX3_promisedBefore 2 = .ok (.aload_n 0, 1) := by decide +kernel
theorem dX3_promisedBefore_3 : decode cX3_promisedBefore 3 = .ok (.getfield 25, 3) := by decide +kernel
theorem dX3_promisedBefore_6 : decode cX3_promisedBefore 6 = .ok (.astore 4, 2) := by decide +kernel
theorem dX3_promisedBefore_8 : decode cX3_promisedBefore 8 = .ok (.aload 4, 2) := by decide +kernel
theorem dX3_promisedBefore_10 : decode cX3_promisedBefore 10 = .ok (.arraylength, 1) := by decide +kernel
theorem dX3_promisedBefore_11 : decode cX3_promisedBefore 11 = .ok (.istore 5, 2) := by decide +kernel
theorem dX3_promisedBefore_13 : decode cX3_promisedBefore 13 = .ok (.iconst 0, 1) := by decide +kernel
theorem dX3_promisedBefore_14 : decode cX3_promisedBefore 14 = .ok (.istore 6, 2) := by decide +kernel
theorem dX3_promisedBefore_16 : decode cX3_promisedBefore 16 = .ok (.iload 6, 2) := by decide +kernel
theorem dX3_promisedBefore_18 : decode cX3_promisedBefore 18 = .ok (.iload 5, 2) := by decide +kernel
theorem dX3_promisedBefore_20 : decode cX3_promisedBefore 20 = .ok (.if_icmp .ge 56, 3) := by decide +kernel
theorem dX3_promisedBefore_23 : decode cX3_promisedBefore 23 = .ok (.aload 4, 2) := by decide +kernel
theorem dX3_promisedBefore_25 : decode cX3_promisedBefore 25 = .ok (.iload 6, 2) := by decide +kernel
theorem dX3_promisedBefore_27 : decode cX3_promisedBefore 27 = .ok (.aaload, 1) := by decide +kernel
theorem dX3_promisedBefore_28 : decode cX3_promisedBefore 28 = .ok (.astore 7, 2) := by decide +kernel
theorem dX3_promisedBefore_30 : decode cX3_promisedBefore 30 = .ok (.aload 7, 2) := by decide +kernel
theorem dX3_promisedBefore_32 : decode cX3_promisedBefore 32 = .ok (.getfield 89, 3) := by decide +kernel
theorem dX3_promisedBefore_35 : decode cX3_promisedBefore 35 = .ok (.iconst 3, 1) := by decide +kernel
theorem dX3_promisedBefore_36 : decode cX3_promisedBefore 36 = .ok (.if_icmp .ne 34, 3) := by decide +kernel
theorem dX3_promisedBefore_39 : decode cX3_promisedBefore 39 = .ok (.aload 7, 2) := by decide +kernel
theorem dX3_promisedBefore_41 : decode cX3_promisedBefore 41 = .ok (.getfield 165, 3) := by decide +kernel
theorem dX3_promisedBefore_44 : decode cX3_promisedBefore 44 = .ok (.aload_n 2, 1) := by decide +kernel
theorem dX3_promisedBefore_45 : decode cX3_promisedBefore 45 = .ok (.getfield 165, 3) := by decide +kernel
theorem dX3_promisedBefore_48 : decode cX3_promisedBefore 48 = .ok (.if_icmp .ge 22, 3) := by decide +kernel
theorem dX3_promisedBefore_51 : decode cX3_promisedBefore 51 = .ok (.aload 7, 2) := by decide +kernel
theorem dX3_promisedBefore_53 : decode cX3_promisedBefore 53 = .ok (.getfield 174, 3) := by decide +kernel
theorem dX3_promisedBefore_56 : decode cX3_promisedBefore 56 = .ok (.iload_n 1, 1) := by decide +kernel
theorem dX3_promisedBefore_57 : decode cX3_promisedBefore 57 = .ok (.iaload, 1) := by decide +kernel
theorem dX3_promisedBefore_58 : decode cX3_promisedBefore 58 = .ok (.iconst 1, 1) := by decide +kernel
theorem dX3_promisedBefore_59 : decode cX3_promisedBefore 59 = .ok (.if_icmp .ne 11, 3) := by decide +kernel
theorem dX3_promisedBefore_62 : decode cX3_promisedBefore 62 = .ok (.iload_n 3, 1) := by decide +kernel
theorem dX3_promisedBefore_63 : decode cX3_promisedBefore 63 = .ok (.aload 7, 2) := by decide +kernel
theorem dX3_promisedBefore_65 : decode cX3_promisedBefore 65 = .ok (.getfield 109, 3) := by decide +kernel
theorem dX3_promisedBefore_68 : decode cX3_promisedBefore 68 = .ok (.ior, 1) := by decide +kernel
theorem dX3_promisedBefore_69 : decode cX3_promisedBefore 69 = .ok (.istore_n 3, 1) := by decide +kernel
theorem dX3_promisedBefore_70 : decode cX3_promisedBefore 70 = .ok (.iinc 6 1, 3) := by decide +kernel
theorem dX3_promisedBefore_73 : decode cX3_promisedBefore 73 = .ok (.goto (-57), 3) := by decide +kernel
theorem dX3_promisedBefore_76 : decode cX3_promisedBefore 76 = .ok (.iload_n 3, 1) := by decide +kernel
theorem dX3_promisedBefore_77 : decode cX3_promisedBefore 77 = .ok (.ireturn, 1) := by decide +kernel
theorem dX3_itemsOf_0 : decode cX3_itemsOf 0 = .ok (.iconst 4, 1) := by decide +kernel
theorem dX3_itemsOf_1 : decode cX3_itemsOf 1 = .ok (.invokestatic 128, 3) := by decide +kernel
theorem dX3_itemsOf_4 : decode cX3_itemsOf 4 = .ok (.iconst 1, 1) := by decide +kernel
theorem dX3_itemsOf_5 : decode cX3_itemsOf 5 = .ok (.isub, 1) := by decide +kernel
theorem dX3_itemsOf_6 : decode cX3_itemsOf 6 = .ok (.istore_n 1, 1) := by decide +kernel
theorem dX3_itemsOf_7 : decode cX3_itemsOf 7 = .ok (.iload_n 1, 1) := by decide +kernel
theorem dX3_itemsOf_8 : decode cX3_itemsOf 8 = .ok (.iload_n 0, 1) := by decide +kernel
theorem dX3_itemsOf_9 : decode cX3_itemsOf 9 = .ok (.iconst 4, 1) := by decide +kernel
theorem dX3_itemsOf_10 : decode cX3_itemsOf 10 = .ok (.imul, 1) := by decide +kernel
theorem dX3_itemsOf_11 : decode cX3_itemsOf 11 = .ok (.ishl, 1) := by decide +kernel
theorem dX3_itemsOf_12 : decode cX3_itemsOf 12 = .ok (.ireturn, 1) := by decide +kernel
theorem dX3_entryOf_0 : decode cX3_entryOf 0 = .ok (.iload_n 1, 1) := by decide +kernel
theorem dX3_entryOf_1 : decode cX3_entryOf 1 = .ok (.iconst 1, 1) := by decide +kernel
theorem dX3_entryOf_2 : decode cX3_entryOf 2 = .ok (.if_icmp .lt 18, 3) := by decide +kernel
theorem dX3_entryOf_5 : decode cX3_entryOf 5 = .ok (.iload_n 1, 1) := by decide +kernel
theorem dX3_entryOf_6 : decode cX3_entryOf 6 = .ok (.aload_n 0, 1) := by decide +kernel
theorem dX3_entryOf_7 : decode cX3_entryOf 7 = .ok (.getfield 69, 3) := by decide +kernel
theorem dX3_entryOf_10 : decode cX3_entryOf 10 = .ok (.if_icmp .gt 10, 3) := by decide +kernel
theorem dX3_entryOf_13 : decode cX3_entryOf 13 = .ok (.iload_n 1, 1) := by decide +kernel
theorem dX3_entryOf_14 : decode cX3_entryOf 14 = .ok (.sipush 512, 3) := by decide +kernel
theorem dX3_entryOf_17 : decode cX3_entryOf 17 = .ok (.if_icmp .le 5, 3) := by decide +kernel
theorem dX3_entryOf_20 : decode cX3_entryOf 20 = .ok (.aconst_null, 1) := by decide +kernel
theorem dX3_entryOf_21 : decode cX3_entryOf 21 = .ok (.areturn, 1) := by decide +kernel
theorem dX3_entryOf_22 : decode cX3_entryOf 22 = .ok (.aload_n 0, 1) := by decide +kernel
theorem dX3_entryOf_23 : decode cX3_entryOf 23 = .ok (.getfield 31, 3) := by decide +kernel
theorem dX3_entryOf_26 : decode cX3_entryOf 26 = .ok (.iload_n 1, 1) := by decide +kernel
theorem dX3_entryOf_27 : decode cX3_entryOf 27 = .ok (.iconst 1, 1) := by decide +kernel
theorem dX3_entryOf_28 : decode cX3_entryOf 28 = .ok (.isub, 1) := by decide +kernel
theorem dX3_entryOf_29 : decode cX3_entryOf 29 = .ok (.aaload, 1) := by decide +kernel
theorem dX3_entryOf_30 : decode cX3_entryOf 30 = .ok (.areturn, 1) := by decide +kernel
theorem dX3_nextEntry_0 : decode cX3_nextEntry 0 = .ok (.aload_n 0, 1) := by decide +kernel
theorem dX3_nextEntry_1 : decode cX3_nextEntry 1 = .ok (.getfield 31, 3) := by decide +kernel
theorem dX3_nextEntry_4 : decode cX3_nextEntry 4 = .ok (.aload_n 0, 1) := by decide +kernel
theorem dX3_nextEntry_5 : decode cX3_nextEntry 5 = .ok (.getfield 69, 3) := by decide +kernel
theorem dX3_nextEntry_8 : decode cX3_nextEntry 8 = .ok (.aaload, 1) := by decide +kernel
theorem dX3_nextEntry_9 : decode cX3_nextEntry 9 = .ok (.astore_n 1, 1) := by decide +kernel
theorem dX3_nextEntry_10 : decode cX3_nextEntry 10 = .ok (.aload_n 1, 1) := by decide +kernel
theorem dX3_nextEntry_11 : decode cX3_nextEntry 11 = .ok (.ifnonnull 21, 3) := by decide +kernel
theorem dX3_nextEntry_14 : decode cX3_nextEntry 14 = .ok (.new 29, 3) := by decide +kernel
theorem dX3_nextEntry_17 : decode cX3_nextEntry 17 = .ok (.dup, 1) := by decide +kernel
theorem dX3_nextEntry_18 : decode cX3_nextEntry 18 = .ok (.invokespecial 288, 3) := by decide +kernel
theorem dX3_nextEntry_21 : decode cX3_nextEntry 21 = .ok (.astore_n 1, 1) := by decide +kernel
theorem dX3_nextEntry_22 : decode cX3_nextEntry 22 = .ok (.aload_n 0, 1) := by decide +kernel
theorem dX3_nextEntry_23 : decode cX3_nextEntry 23 = .ok (.getfield 31, 3) := by decide +kernel
theorem dX3_nextEntry_26 : decode cX3_nextEntry 26 = .ok (.aload_n 0, 1) := by decide +kernel
theorem dX3_nextEntry_27 : decode cX3_nextEntry 27 = .ok (.getfield 69, 3) := by decide +kernel
theorem dX3_nextEntry_30 : decode cX3_nextEntry 30 = .ok (.aload_n 1, 1) := by decide +kernel
theorem dX3_nextEntry_31 : decode cX3_nextEntry 31 = .ok (.aastore, 1) := by decide +kernel
theorem dX3_nextEntry_32 : decode cX3_nextEntry 32 = .ok (.aload_n 0, 1) := by decide +kernel
theorem dX3_nextEntry_33 : decode cX3_nextEntry 33 = .ok (.dup, 1) := by decide +kernel
theorem dX3_nextEntry_34 : decode cX3_nextEntry 34 = .ok (.getfield 69, 3) := by decide +kernel
theorem dX3_nextEntry_37 : decode cX3_nextEntry 37 = .ok (.iconst 1, 1) := by decide +kernel
theorem dX3_nextEntry_38 : decode cX3_nextEntry 38 = .ok (.iadd, 1) := by decide +kernel
theorem dX3_nextEntry_39 : decode cX3_nextEntry 39 = .ok (.putfield 69, 3) := by decide +kernel
theorem dX3_nextEntry_42 : decode cX3_nextEntry 42 = .ok (.aload_n 1, 1) := by decide +kernel
theorem dX3_nextEntry_43 : decode cX3_nextEntry 43 = .ok (.areturn, 1) := by decide +kernel
theorem dX4_init_0 : decode cX4_init 0 = .ok (.aload_n 0, 1) := by decide +kernel
theorem dX4_init_1 : decode cX4_init 1 = .ok (.invokespecial 1, 3) := by decide +kernel
theorem dX4_init_4 : decode cX4_init 4 = .ok (.aload_n 0, 1) := by decide +kernel
theorem dX4_init_5 : decode cX4_init 5 = .ok (.bipush 8, 2) := by decide +kernel
theorem dX4_init_7 : decode cX4_init 7 = .ok (.newarray .int, 2) := by decide +kernel
theorem dX4_init_9 : decode cX4_init 9 = .ok (.putfield 7, 3) := by decide +kernel
theorem dX4_init_12 : decode cX4_init 12 = .ok (.aload_n 0, 1) := by decide +kernel
theorem dX4_init_13 : decode cX4_init 13 = .ok (.bipush 8, 2) := by decide +kernel
theorem dX4_init_15 : decode cX4_init 15 = .ok (.newarray .int, 2) := by decide +kernel
theorem dX4_init_17 : decode cX4_init 17 = .ok (.putfield 13, 3) := by decide +kernel
theorem dX4_init_20 : decode cX4_init 20 = .ok (.aload_n 0, 1) := by decide +kernel
theorem dX4_init_21 : decode cX4_init 21 = .ok (.sipush 13200, 3) := by decide +kernel
theorem dX4_init_24 : decode cX4_init 24 = .ok (.newarray .int, 2) := by decide +kernel
theorem dX4_init_26 : decode cX4_init 26 = .ok (.putfield 16, 3) := by decide +kernel
theorem dX4_init_29 : decode cX4_init 29 = .ok (.aload_n 0, 1) := by decide +kernel
theorem dX4_init_30 : decode cX4_init 30 = .ok (.bipush 6, 2) := by decide +kernel
theorem dX4_init_32 : decode cX4_init 32 = .ok (.newarray .int, 2) := by decide +kernel
theorem dX4_init_34 : decode cX4_init 34 = .ok (.putfield 19, 3) := by decide +kernel
theorem dX4_init_37 : decode cX4_init 37 = .ok (.aload_n 0, 1) := by decide +kernel
theorem dX4_init_38 : decode cX4_init 38 = .ok (.bipush 6, 2) := by decide +kernel
theorem dX4_init_40 : decode cX4_init 40 = .ok (.newarray .int, 2) := by decide +kernel
theorem dX4_init_42 : decode cX4_init 42 = .ok (.putfield 22, 3) := by decide +kernel
theorem dX4_init_45 : decode cX4_init 45 = .ok (.aload_n 0, 1) := by decide +kernel
theorem dX4_init_46 : decode cX4_init 46 = .ok (.bipush 6, 2) := by decide +kernel
theorem dX4_init_48 : decode cX4_init 48 = .ok (.newarray .int, 2) := by decide +kernel
theorem dX4_init_50 : decode cX4_init 50 = .ok (.putfield 25, 3) := by decide +kernel
theorem dX4_init_53 : decode cX4_init 53 = .ok (.aload_n 0, 1) := by decide +kernel
theorem dX4_init_54 : decode cX4_init 54 = .ok (.bipush 6, 2) := by decide +kernel
theorem dX4_init_56 : decode cX4_init 56 = .ok (.newarray .int, 2) := by decide +kernel
theorem dX4_init_58 : decode cX4_init 58 = .ok (.putfield 28, 3) := by decide +kernel
theorem dX4_init_61 : decode cX4_init 61 = .ok (.aload_n 0, 1) := by decide +kernel
theorem dX4_init_62 : decode cX4_init 62 = .ok (.bipush 6, 2) := by decide +kernel
theorem dX4_init_64 : decode cX4_init 64 = .ok (.newarray .boolean, 2) := by decide +kernel
theorem dX4_init_66 : decode cX4_init 66 = .ok (.putfield 31, 3) := by decide +kernel
theorem dX4_init_69 : decode cX4_init 69 = .ok (.aload_n 0, 1) := by decide +kernel
theorem dX4_init_70 : decode cX4_init 70 = .ok (.bipush 6, 2) := by decide +kernel
theorem dX4_init_72 : decode cX4_init 72 = .ok (.newarray .int, 2) := by decide +kernel
theorem dX4_init_74 : decode cX4_init 74 = .ok (.putfield 35, 3) := by decide +kernel
theorem dX4_init_77 : decode cX4_init 77 = .ok (.aload_n 0, 1) := by decide +kernel
theorem dX4_init_78 : decode cX4_init 78 = .ok (.bipush 6, 2) := by decide +kernel
theorem dX4_init_80 : decode cX4_init 80 = .ok (.newarray .int, 2) := by decide +kernel
theorem dX4_init_82 : decode cX4_init 82 = .ok (.putfield 38, 3) := by decide +kernel
theorem dX4_init_85 : decode cX4_init 85 = .ok (.aload_n 0, 1) := by decide +kernel
theorem dX4_init_86 : decode cX4_init 86 = .ok (.bipush 48, 2) := by decide +kernel
theorem dX4_init_88 : decode cX4_init 88 = .ok (.newarray .int, 2) := by decide +kernel
theorem dX4_init_90 : decode cX4_init 90 = .ok (.putfield 41, 3) := by decide +kernel
theorem dX4_init_93 : decode cX4_init 93 = .ok (.aload_n 0, 1) := by decide +kernel
theorem dX4_init_94 : decode cX4_init 94 = .ok (.bipush 48, 2) := by decide +kernel
theorem dX4_init_96 : decode cX4_init 96 = .ok (.newarray .int, 2) := by decide +kernel
theorem dX4_init_98 : decode cX4_init 98 = .ok (.putfield 44, 3) := by decide +kernel
theorem dX4_init_101 : decode cX4_init 101 = .ok (.aload_n 0, 1) := by decide +kernel
theorem dX4_init_102 : decode cX4_init 102 = .ok (.bipush 48, 2) := by decide +kernel
theorem dX4_init_104 : decode cX4_init 104 = .ok (.newarray .int, 2) := by decide +kernel
theorem dX4_init_106 : decode cX4_init 106 = .ok (.putfield 47, 3) := by decide +kernel
theorem dX4_init_109 : decode cX4_init 109 = .ok (.aload_n 0, 1) := by decide +kernel
theorem dX4_init_110 : decode cX4_init 110 = .ok (.bipush 6, 2) := by decide +kernel
theorem dX4_init_112 : decode cX4_init 112 = .ok (.newarray .int, 2) := by decide +kernel
theorem dX4_init_114 : decode cX4_init 114 = .ok (.putfield 50, 3) := by decide +kernel
theorem dX4_init_117 : decode cX4_init 117 = .ok (.aload_n 0, 1) := by decide +kernel
theorem dX4_init_118 : decode cX4_init 118 = .ok (.bipush 12, 2) := by decide +kernel
theorem dX4_init_120 : decode cX4_init 120 = .ok (.newarray .int, 2) := by decide +kernel
theorem dX4_init_122 : decode cX4_init 122 = .ok (.putfield 53, 3) := by decide +kernel
theorem dX4_init_125 : decode cX4_init 125 = .ok (.aload_n 0, 1) := by decide +kernel
theorem dX4_init_126 : decode cX4_init 126 = .ok (.iconst 3, 1) := by decide +kernel
theorem dX4_init_127 : decode cX4_init 127 = .ok (.putfield 56, 3) := by decide +kernel
theorem dX4_init_130 : decode cX4_init 130 = .ok (.aload_n 0, 1) := by decide +kernel
theorem dX4_init_131 : decode cX4_init 131 = .ok (.sipush 200, 3) := by decide +kernel
theorem dX4_init_134 : decode cX4_init 134 = .ok (.newarray .int, 2) := by decide +kernel
theorem dX4_init_136 : decode cX4_init 136 = .ok (.putfield 60, 3) := by decide +kernel
theorem dX4_init_139 : decode cX4_init 139 = .ok (.aload_n 0, 1) := by decide +kernel
theorem dX4_init_140 : decode cX4_init 140 = .ok (.iconst 3, 1) := by decide +kernel
theorem dX4_init_141 : decode cX4_init 141 = .ok (.newarray .int, 2) := by decide +kernel
theorem dX4_init_143 : decode cX4_init 143 = .ok (.putfield 63, 3) := by decide +kernel
theorem dX4_init_146 : decode cX4_init 146 = .ok (.aload_n 0, 1) := by decide +kernel
theorem dX4_init_147 : decode cX4_init 147 = .ok (.bipush 35, 2) := by decide +kernel
theorem dX4_init_149 : decode cX4_init 149 = .ok (.newarray .int, 2) := by decide +kernel
theorem dX4_init_151 : decode cX4_init 151 = .ok (.dup, 1) := by decide +kernel
theorem dX4_init_152 : decode cX4_init 152 = .ok (.iconst 0, 1) := by decide +kernel
theorem dX4_init_153 : decode cX4_init 153 = .ok (.bipush 97, 2) := by decide +kernel
theorem dX4_init_155 : decode cX4_init 155 = .ok (.iastore, 1) := by decide +kernel
theorem dX4_init_156 : decode cX4_init 156 = .ok (.dup, 1) := by decide +kernel
theorem dX4_init_157 : decode cX4_init 157 = .ok (.iconst 1, 1) := by decide +kernel
theorem dX4_init_158 : decode cX4_init 158 = .ok (.bipush 108, 2) := by decide +kernel
theorem dX4_init_160 : decode cX4_init 160 = .ok (.iastore, 1) := by decide +kernel
theorem dX4_init_161 : decode cX4_init 161 = .ok (.dup, 1) := by decide +kernel
theorem dX4_init_162 : decode cX4_init 162 = .ok (.iconst 2, 1) := by decide +kernel
theorem dX4_init_163 : decode cX4_init 163 = .ok (.bipush 108, 2) := by decide +kernel
theorem dX4_init_165 : decode cX4_init 165 = .ok (.iastore, 1) := by decide +kernel
theorem dX4_init_166 : decode cX4_init 166 = .ok (.dup, 1) := by decide +kernel
theorem dX4_init_167 : decode cX4_init 167 = .ok (.iconst 3, 1) := by decide +kernel
theorem dX4_init_168 : decode cX4_init 168 = .ok (.iconst 0, 1) := by decide +kernel
theorem dX4_init_169 : decode cX4_init 169 = .ok (.iastore, 1) := by decide +kernel
theorem dX4_init_170 : decode cX4_init 170 = .ok (.dup, 1) := by decide +kernel
theorem dX4_init_171 : decode cX4_init 171 = .ok (.iconst 4, 1) := by decide +kernel
theorem dX4_init_172 : decode cX4_init 172 = .ok (.iconst 0, 1) := by decide +kernel
theorem dX4_init_173 : decode cX4_init 173 = .ok (.iastore, 1) := by decide +kernel
theorem dX4_init_174 : decode cX4_init 174 = .ok (.dup, 1) := by decide +kernel
theorem dX4_init_175 : decode cX4_init 175 = .ok (.iconst 5, 1) := by decide +kernel
theorem dX4_init_176 : decode cX4_init 176 = .ok (.bipush 105, 2) := by decide +kernel
theorem dX4_init_178 : decode cX4_init 178 = .ok (.iastore, 1) := by decide +kernel
theorem dX4_init_179 : decode cX4_init 179 = .ok (.dup, 1) := by decide +kernel
theorem dX4_init_180 : decode cX4_init 180 = .ok (.bipush 6, 2) := by decide +kernel
theorem dX4_init_182 : decode cX4_init 182 = .ok (.bipush 116, 2) := by decide +kernel
theorem dX4_init_184 : decode cX4_init 184 = .ok (.iastore, 1) := by decide +kernel
theorem dX4_init_185 : decode cX4_init 185 = .ok (.dup, 1) := by decide +kernel
theorem dX4_init_186 : decode cX4_init 186 = .ok (.bipush 7, 2) := by decide +kernel
theorem dX4_init_188 : decode cX4_init 188 = .ok (.bipush 101, 2) := by decide +kernel
theorem dX4_init_190 : decode cX4_init 190 = .ok (.iastore, 1) := by decide +kernel
theorem dX4_init_191 : decode cX4_init 191 = .ok (.dup, 1) := by decide +kernel
theorem dX4_init_192 : decode cX4_init 192 = .ok (.bipush 8, 2) := by decide +kernel
theorem dX4_init_194 : decode cX4_init 194 = .ok (.bipush 109, 2) := by decide +kernel
theorem dX4_init_196 : decode cX4_init 196 = .ok (.iastore, 1) := by decide +kernel
theorem dX4_init_197 : decode cX4_init 197 = .ok (.dup, 1) := by decide +kernel
theorem dX4_init_198 : decode cX4_init 198 = .ok (.bipush 9, 2) := by decide +kernel
theorem dX4_init_200 : decode cX4_init 200 = .ok (.iconst 0, 1) := by decide +kernel
theorem dX4_init_201 : decode cX4_init 201 = .ok (.iastore, 1) := by decide +kernel
theorem dX4_init_202 : decode cX4_init 202 = .ok (.dup, 1) := by decide +kernel
theorem dX4_init_203 : decode cX4_init 203 = .ok (.bipush 10, 2) := by decide +kernel
theorem dX4_init_205 : decode cX4_init 205 = .ok (.bipush 108, 2) := by decide +kernel
theorem dX4_init_207 : decode cX4_init 207 = .ok (.iastore, 1) := by decide +kernel
theorem dX4_init_208 : decode cX4_init 208 = .ok (.dup, 1) := by decide +kernel
theorem dX4_init_209 : decode cX4_init 209 = .ok (.bipush 11, 2) := by decide +kernel
theorem dX4_init_211 : decode cX4_init 211 = .ok (.bipush 105, 2) := by decide +kernel
theorem dX4_init_213 : decode cX4_init 213 = .ok (.iastore, 1) := by decide +kernel
theorem dX4_init_214 : decode cX4_init 214 = .ok (.dup, 1) := by decide +kernel
theorem dX4_init_215 : decode cX4_init 215 = .ok (.bipush 12, 2) := by decide +kernel
theorem dX4_init_217 : decode cX4_init 217 = .ok (.bipush 109, 2) := by decide +kernel
theorem dX4_init_219 : decode cX4_init 219 = .ok (.iastore, 1) := by decide +kernel
theorem dX4_init_220 : decode cX4_init 220 = .ok (.dup, 1) := by decide +kernel
theorem dX4_init_221 : decode cX4_init 221 = .ok (.bipush 13, 2) := by decide +kernel
theorem dX4_init_223 : decode cX4_init 223 = .ok (.bipush 105, 2) := by decide +kernel
theorem dX4_init_225 : decode cX4_init 225 = .ok (.iastore, 1) := by decide +kernel
theorem dX4_init_226 : decode cX4_init 226 = .ok (.dup, 1) := by decide +kernel
theorem dX4_init_227 : decode cX4_init 227 = .ok (.bipush 14, 2) := by decide +kernel
theorem dX4_init_229 : decode cX4_init 229 = .ok (.bipush 116, 2) := by decide +kernel
theorem dX4_init_231 : decode cX4_init 231 = .ok (.iastore, 1) := by decide +kernel
theorem dX4_init_232 : decode cX4_init 232 = .ok (.dup, 1) := by decide +kernel
theorem dX4_init_233 : decode cX4_init 233 = .ok (.bipush 15, 2) := by decide +kernel
theorem dX4_init_235 : decode cX4_init 235 = .ok (.bipush 98, 2) := by decide +kernel
theorem dX4_init_237 : decode cX4_init 237 = .ok (.iastore, 1) := by decide +kernel
theorem dX4_init_238 : decode cX4_init 238 = .ok (.dup, 1) := by decide +kernel
theorem dX4_init_239 : decode cX4_init 239 = .ok (.bipush 16, 2) := by decide +kernel
theorem dX4_init_241 : decode cX4_init 241 = .ok (.bipush 101, 2) := by decide +kernel
theorem dX4_init_243 : decode cX4_init 243 = .ok (.iastore, 1) := by decide +kernel
theorem dX4_init_244 : decode cX4_init 244 = .ok (.dup, 1) := by decide +kernel
theorem dX4_init_245 : decode cX4_init 245 = .ok (.bipush 17, 2) := by decide +kernel
theorem dX4_init_247 : decode cX4_init 247 = .ok (.bipush 103, 2) := by decide +kernel
theorem dX4_init_249 : decode cX4_init 249 = .ok (.iastore, 1) := by decide +kernel
theorem dX4_init_250 : decode cX4_init 250 = .ok (.dup, 1) := by decide +kernel
theorem dX4_init_251 : decode cX4_init 251 = .ok (.bipush 18, 2) := by decide +kernel
theorem dX4_init_253 : decode cX4_init 253 = .ok (.bipush 105, 2) := by decide +kernel
theorem dX4_init_255 : decode cX4_init 255 = .ok (.iastore, 1) := by decide +kernel
theorem dX4_init_256 : decode cX4_init 256 = .ok (.dup, 1) := by decide +kernel
theorem dX4_init_257 : decode cX4_init 257 = .ok (.bipush 19, 2) := by decide +kernel
theorem dX4_init_259 : decode cX4_init 259 = .ok (.bipush 110, 2) := by decide +kernel
theorem dX4_init_261 : decode cX4_init 261 = .ok (.iastore, 1) := by decide +kernel
theorem dX4_init_262 : decode cX4_init 262 = .ok (.dup, 1) := by decide +kernel
theorem dX4_init_263 : decode cX4_init 263 = .ok (.bipush 20, 2) := by decide +kernel
theorem dX4_init_265 : decode cX4_init 265 = .ok (.bipush 114, 2) := by decide +kernel
theorem dX4_init_267 : decode cX4_init 267 = .ok (.iastore, 1) := by decide +kernel
theorem dX4_init_268 : decode cX4_init 268 = .ok (.dup, 1) := by decide +kernel
theorem dX4_init_269 : decode cX4_init 269 = .ok (.bipush 21, 2) := by decide +kernel
theorem dX4_init_271 : decode cX4_init 271 = .ok (.bipush 101, 2) := by decide +kernel
theorem dX4_init_273 : decode cX4_init 273 = .ok (.iastore, 1) := by decide +kernel
theorem dX4_init_274 : decode cX4_init 274 = .ok (.dup, 1) := by decide +kernel
theorem dX4_init_275 : decode cX4_init 275 = .ok (.bipush 22, 2) := by decide +kernel
theorem dX4_init_277 : decode cX4_init 277 = .ok (.bipush 97, 2) := by decide +kernel
theorem dX4_init_279 : decode cX4_init 279 = .ok (.iastore, 1) := by decide +kernel
theorem dX4_init_280 : decode cX4_init 280 = .ok (.dup, 1) := by decide +kernel
theorem dX4_init_281 : decode cX4_init 281 = .ok (.bipush 23, 2) := by decide +kernel
theorem dX4_init_283 : decode cX4_init 283 = .ok (.bipush 100, 2) := by decide +kernel
theorem dX4_init_285 : decode cX4_init 285 = .ok (.iastore, 1) := by decide +kernel
theorem dX4_init_286 : decode cX4_init 286 = .ok (.dup, 1) := by decide +kernel
theorem dX4_init_287 : decode cX4_init 287 = .ok (.bipush 24, 2) := by decide +kernel
theorem dX4_init_289 : decode cX4_init 289 = .ok (.iconst 0, 1) := by decide +kernel
theorem dX4_init_290 : decode cX4_init 290 = .ok (.iastore, 1) := by decide +kernel
theorem dX4_init_291 : decode cX4_init 291 = .ok (.dup, 1) := by decide +kernel
theorem dX4_init_292 : decode cX4_init 292 = .ok (.bipush 25, 2) := by decide +kernel
theorem dX4_init_294 : decode cX4_init 294 = .ok (.bipush 119, 2) := by decide +kernel
theorem dX4_init_296 : decode cX4_init 296 = .ok (.iastore, 1) := by decide +kernel
theorem dX4_init_297 : decode cX4_init 297 = .ok (.dup, 1) := by decide +kernel
theorem dX4_init_298 : decode cX4_init 298 = .ok (.bipush 26, 2) := by decide +kernel
theorem dX4_init_300 : decode cX4_init 300 = .ok (.bipush 114, 2) := by decide +kernel
theorem dX4_init_302 : decode cX4_init 302 = .ok (.iastore, 1) := by decide +kernel
theorem dX4_init_303 : decode cX4_init 303 = .ok (.dup, 1) := by decide +kernel
theorem dX4_init_304 : decode cX4_init 304 = .ok (.bipush 27, 2) := by decide +kernel
theorem dX4_init_306 : decode cX4_init 306 = .ok (.bipush 105, 2) := by decide +kernel
theorem dX4_init_308 : decode cX4_init 308 = .ok (.iastore, 1) := by decide +kernel
theorem dX4_init_309 : decode cX4_init 309 = .ok (.dup, 1) := by decide +kernel
theorem dX4_init_310 : decode cX4_init 310 = .ok (.bipush 28, 2) := by decide +kernel
theorem dX4_init_312 : decode cX4_init 312 = .ok (.bipush 116, 2) := by decide +kernel
theorem dX4_init_314 : decode cX4_init 314 = .ok (.iastore, 1) := by decide +kernel
theorem dX4_init_315 : decode cX4_init 315 = .ok (.dup, 1) := by decide +kernel
theorem dX4_init_316 : decode cX4_init 316 = .ok (.bipush 29, 2) := by decide +kernel
theorem dX4_init_318 : decode cX4_init 318 = .ok (.bipush 101, 2) := by decide +kernel
theorem dX4_init_320 : decode cX4_init 320 = .ok (.iastore, 1) := by decide +kernel
theorem dX4_init_321 : decode cX4_init 321 = .ok (.dup, 1) := by decide +kernel
theorem dX4_init_322 : decode cX4_init 322 = .ok (.bipush 30, 2) := by decide +kernel
theorem dX4_init_324 : decode cX4_init 324 = .ok (.bipush 115, 2) := by decide +kernel
theorem dX4_init_326 : decode cX4_init 326 = .ok (.iastore, 1) := by decide +kernel
theorem dX4_init_327 : decode cX4_init 327 = .ok (.dup, 1) := by decide +kernel
theorem dX4_init_328 : decode cX4_init 328 = .ok (.bipush 31, 2) := by decide +kernel
theorem dX4_init_330 : decode cX4_init 330 = .ok (.bipush 101, 2) := by decide +kernel
theorem dX4_init_332 : decode cX4_init 332 = .ok (.iastore, 1) := by decide +kernel
theorem dX4_init_333 : decode cX4_init 333 = .ok (.dup, 1) := by decide +kernel
theorem dX4_init_334 : decode cX4_init 334 = .ok (.bipush 32, 2) := by decide +kernel
theorem dX4_init_336 : decode cX4_init 336 = .ok (.bipush 110, 2) := by decide +kernel
theorem dX4_init_338 : decode cX4_init 338 = .ok (.iastore, 1) := by decide +kernel
theorem dX4_init_339 : decode cX4_init 339 = .ok (.dup, 1) := by decide +kernel
theorem dX4_init_340 : decode cX4_init 340 = .ok (.bipush 33, 2) := by decide +kernel
theorem dX4_init_342 : decode cX4_init 342 = .ok (.bipush 100, 2) := by decide +kernel
theorem dX4_init_344 : decode cX4_init 344 = .ok (.iastore, 1) := by decide +kernel
theorem dX4_init_345 : decode cX4_init 345 = .ok (.dup, 1) := by decide +kernel
theorem dX4_init_346 : decode cX4_init 346 = .ok (.bipush 34, 2) := by decide +kernel
theorem dX4_init_348 : decode cX4_init 348 = .ok (.iconst 0, 1) := by decide +kernel
theorem dX4_init_349 : decode cX4_init 349 = .ok (.iastore, 1) := by decide +kernel
theorem dX4_init_350 : decode cX4_init 350 = .ok (.putfield 66, 3) := by decide +kernel
theorem dX4_init_353 : decode cX4_init 353 = .ok (.return_, 1) := by decide +kernel
theorem dX4_in_0 : decode cX4_in 0 = .ok (.lload_n 0, 1) := by decide +kernel
theorem dX4_in_1 : decode cX4_in 1 = .ok (.lload_n 2, 1) := by decide +kernel
theorem dX4_in_2 : decode cX4_in 2 = .ok (.lcmp, 1) := by decide +kernel
theorem dX4_in_3 : decode cX4_in 3 = .ok (.ifCond .lt 14, 3) := by decide +kernel
theorem dX4_in_6 : decode cX4_in 6 = .ok (.lload_n 0, 1) := by decide +kernel
theorem dX4_in_7 : decode cX4_in 7 = .ok (.lload 4, 2) := by decide +kernel
theorem dX4_in_9 : decode cX4_in 9 = .ok (.lcmp, 1) := by decide +kernel
theorem dX4_in_10 : decode cX4_in 10 = .ok (.ifCond .gt 7, 3) := by decide +kernel
theorem dX4_in_13 : decode cX4_in 13 = .ok (.iconst 1, 1) := by decide +kernel
theorem dX4_in_14 : decode cX4_in 14 = .ok (.goto 4, 3) := by decide +kernel
theorem dX4_in_17 : decode cX4_in 17 = .ok (.iconst 0, 1) := by decide +kernel
theorem dX4_in_18 : decode cX4_in 18 = .ok (.ireturn, 1) := by decide +kernel
theorem dX4_isItem_0 : decode cX4_isItem 0 = .ok (.iload_n 0, 1) := by decide +kernel
theorem dX4_isItem_1 : decode cX4_isItem 1 = .ok (.i2l, 1) := by decide +kernel
theorem dX4_isItem_2 : decode cX4_isItem 2 = .ok (.lconst 0, 1) := by decide +kernel
theorem dX4_isItem_3 : decode cX4_isItem 3 = .ok (.ldc2_w 69, 3) := by decide +kernel
theorem dX4_isItem_6 : decode cX4_isItem 6 = .ok (.invokestatic 71, 3) := by decide +kernel
theorem dX4_isItem_9 : decode cX4_isItem 9 = .ok (.ireturn, 1) := by decide +kernel
theorem dX4_isDeal_0 : decode cX4_isDeal 0 = .ok (.iload_n 0, 1) := by decide +kernel
theorem dX4_isDeal_1 : decode cX4_isDeal 1 = .ok (.i2l, 1) := by decide +kernel
theorem dX4_isDeal_2 : decode cX4_isDeal 2 = .ok (.lconst 0, 1) := by decide +kernel
theorem dX4_isDeal_3 : decode cX4_isDeal 3 = .ok (.ldc2_w 75, 3) := by decide +kernel
theorem dX4_isDeal_6 : decode cX4_isDeal 6 = .ok (.invokestatic 71, 3) := by decide +kernel
theorem dX4_isDeal_9 : decode cX4_isDeal 9 = .ok (.ireturn, 1) := by decide +kernel
theorem dX4_has_0 : decode cX4_has 0 = .ok (.iload_n 0, 1) := by decide +kernel
theorem dX4_has_1 : decode cX4_has 1 = .ok (.iload_n 1, 1) := by decide +kernel
theorem dX4_has_2 : decode cX4_has 2 = .ok (.ishr, 1) := by decide +kernel
theorem dX4_has_3 : decode cX4_has 3 = .ok (.iconst 1, 1) := by decide +kernel
theorem dX4_has_4 : decode cX4_has 4 = .ok (.iand, 1) := by decide +kernel
theorem dX4_has_5 : decode cX4_has 5 = .ok (.iconst 1, 1) := by decide +kernel
theorem dX4_has_6 : decode cX4_has 6 = .ok (.if_icmp .ne 7, 3) := by decide +kernel
theorem dX4_has_9 : decode cX4_has 9 = .ok (.iconst 1, 1) := by decide +kernel
theorem dX4_has_10 : decode cX4_has 10 = .ok (.goto 4, 3) := by decide +kernel
theorem dX4_has_13 : decode cX4_has 13 = .ok (.iconst 0, 1) := by decide +kernel
theorem dX4_has_14 : decode cX4_has 14 = .ok (.ireturn, 1) := by decide +kernel
theorem dX4_ones_0 : decode cX4_ones 0 = .ok (.iconst 0, 1) := by decide +kernel
theorem dX4_ones_1 : decode cX4_ones 1 = .ok (.istore_n 1, 1) := by decide +kernel
theorem dX4_ones_2 : decode cX4_ones 2 = .ok (.iconst 0, 1) := by decide +kernel
theorem dX4_ones_3 : decode cX4_ones 3 = .ok (.istore_n 2, 1) := by decide +kernel
theorem dX4_ones_4 : decode cX4_ones 4 = .ok (.iload_n 2, 1) := by decide +kernel
theorem dX4_ones_5 : decode cX4_ones 5 = .ok (.bipush 8, 2) := by decide +kernel
theorem dX4_ones_7 : decode cX4_ones 7 = .ok (.if_icmp .ge 17, 3) := by decide +kernel
theorem dX4_ones_10 : decode cX4_ones 10 = .ok (.iload_n 1, 1) := by decide +kernel
theorem dX4_ones_11 : decode cX4_ones 11 = .ok (.iload_n 0, 1) := by decide +kernel
theorem dX4_ones_12 : decode cX4_ones 12 = .ok (.iload_n 2, 1) := by decide +kernel
theorem dX4_ones_13 : decode cX4_ones 13 = .ok (.ishr, 1) := by decide +kernel
theorem dX4_ones_14 : decode cX4_ones 14 = .ok (.iconst 1, 1) := by decide +kernel
theorem dX4_ones_15 : decode cX4_ones 15 = .ok (.iand, 1) := by decide +kernel
theorem dX4_ones_16 : decode cX4_ones 16 = .ok (.iadd, 1) := by decide +kernel
theorem dX4_ones_17 : decode cX4_ones 17 = .ok (.istore_n 1, 1) := by decide +kernel
theorem dX4_ones_18 : decode cX4_ones 18 = .ok (.iinc 2 1, 3) := by decide +kernel
theorem dX4_ones_21 : decode cX4_ones 21 = .ok (.goto (-17), 3) := by decide +kernel
theorem dX4_ones_24 : decode cX4_ones 24 = .ok (.iload_n 1, 1) := by decide +kernel
theorem dX4_ones_25 : decode cX4_ones 25 = .ok (.ireturn, 1) := by decide +kernel
theorem dX4_allAnew_0 : decode cX4_allAnew 0 = .ok (.iconst 0, 1) := by decide +kernel
theorem dX4_allAnew_1 : decode cX4_allAnew 1 = .ok (.istore_n 1, 1) := by decide +kernel
theorem dX4_allAnew_2 : decode cX4_allAnew 2 = .ok (.iload_n 1, 1) := by decide +kernel
theorem dX4_allAnew_3 : decode cX4_allAnew 3 = .ok (.bipush 8, 2) := by decide +kernel
theorem dX4_allAnew_5 : decode cX4_allAnew 5 = .ok (.if_icmp .ge 23, 3) := by decide +kernel
theorem dX4_allAnew_8 : decode cX4_allAnew 8 = .ok (.aload_n 0, 1) := by decide +kernel
theorem dX4_allAnew_9 : decode cX4_allAnew 9 = .ok (.getfield 7, 3) := by decide +kernel
theorem dX4_allAnew_12 : decode cX4_allAnew 12 = .ok (.iload_n 1, 1) := by decide +kernel
theorem dX4_allAnew_13 : decode cX4_allAnew 13 = .ok (.iconst 0, 1) := by decide +kernel
theorem dX4_allAnew_14 : decode cX4_allAnew 14 = .ok (.iastore, 1) := by decide +kernel
theorem dX4_allAnew_15 : decode cX4_allAnew 15 = .ok (.aload_n 0, 1) := by decide +kernel
theorem dX4_allAnew_16 : decode cX4_allAnew 16 = .ok (.getfield 13, 3) := by decide +kernel
theorem dX4_allAnew_19 : decode cX4_allAnew 19 = .ok (.iload_n 1, 1) := by decide +kernel
theorem dX4_allAnew_20 : decode cX4_allAnew 20 = .ok (.iconst 0, 1) := by decide +kernel
theorem dX4_allAnew_21 : decode cX4_allAnew 21 = .ok (.iastore, 1) := by decide +kernel
theorem dX4_allAnew_22 : decode cX4_allAnew 22 = .ok (.iinc 1 1, 3) := by decide +kernel
theorem dX4_allAnew_25 : decode cX4_allAnew 25 = .ok (.goto (-23), 3) := by decide +kernel
theorem dX4_allAnew_28 : decode cX4_allAnew 28 = .ok (.iconst 0, 1) := by decide +kernel
theorem dX4_allAnew_29 : decode cX4_allAnew 29 = .ok (.istore_n 1, 1) := by decide +kernel
theorem dX4_allAnew_30 : decode cX4_allAnew 30 = .ok (.iload_n 1, 1) := by decide +kernel
theorem dX4_allAnew_31 : decode cX4_allAnew 31 = .ok (.bipush 6, 2) := by decide +kernel
theorem dX4_allAnew_33 : decode cX4_allAnew 33 = .ok (.if_icmp .ge 15, 3) := by decide +kernel
theorem dX4_allAnew_36 : decode cX4_allAnew 36 = .ok (.aload_n 0, 1) := by decide +kernel
theorem dX4_allAnew_37 : decode cX4_allAnew 37 = .ok (.iload_n 1, 1) := by decide +kernel
theorem dX4_allAnew_38 : decode cX4_allAnew 38 = .ok (.iconst 0, 1) := by decide +kernel
theorem dX4_allAnew_39 : decode cX4_allAnew 39 = .ok (.invokevirtual 77, 3) := by decide +kernel
theorem dX4_allAnew_42 : decode cX4_allAnew 42 = .ok (.iinc 1 1, 3) := by decide +kernel
theorem dX4_allAnew_45 : decode cX4_allAnew 45 = .ok (.goto (-15), 3) := by decide +kernel
theorem dX4_allAnew_48 : decode cX4_allAnew 48 = .ok (.aload_n 0, 1) := by decide +kernel
theorem dX4_allAnew_49 : decode cX4_allAnew 49 = .ok (.iconst 0, 1) := by decide +kernel
theorem dX4_allAnew_50 : decode cX4_allAnew 50 = .ok (.putfield 81, 3) := by decide +kernel
theorem dX4_allAnew_53 : decode cX4_allAnew 53 = .ok (.aload_n 0, 1) := by decide +kernel
theorem dX4_allAnew_54 : decode cX4_allAnew 54 = .ok (.iconst 3, 1) := by decide +kernel
theorem dX4_allAnew_55 : decode cX4_allAnew 55 = .ok (.putfield 56, 3) := by decide +kernel
theorem dX4_allAnew_58 : decode cX4_allAnew 58 = .ok (.aload_n 0, 1) := by decide +kernel
theorem dX4_allAnew_59 : decode cX4_allAnew 59 = .ok (.iconst 0, 1) := by decide +kernel
theorem dX4_allAnew_60 : decode cX4_allAnew 60 = .ok (.putfield 84, 3) := by decide +kernel
theorem dX4_allAnew_63 : decode cX4_allAnew 63 = .ok (.aload_n 0, 1) := by decide +kernel
theorem dX4_allAnew_64 : decode cX4_allAnew 64 = .ok (.iconst 0, 1) := by decide +kernel
theorem dX4_allAnew_65 : decode cX4_allAnew 65 = .ok (.putfield 87, 3) := by decide +kernel
theorem dX4_allAnew_68 : decode cX4_allAnew 68 = .ok (.aload_n 0, 1) := by decide +kernel
theorem dX4_allAnew_69 : decode cX4_allAnew 69 = .ok (.iconst 0, 1) := by decide +kernel
theorem dX4_allAnew_70 : decode cX4_allAnew 70 = .ok (.putfield 90, 3) := by decide +kernel
theorem dX4_allAnew_73 : decode cX4_allAnew 73 = .ok (.aload_n 0, 1) := by decide +kernel
theorem dX4_allAnew_74 : decode cX4_allAnew 74 = .ok (.iconst 0, 1) := by decide +kernel
theorem dX4_allAnew_75 : decode cX4_allAnew 75 = .ok (.putfield 93, 3) := by decide +kernel
theorem dX4_allAnew_78 : decode cX4_allAnew 78 = .ok (.aload_n 0, 1) := by decide +kernel
theorem dX4_allAnew_79 : decode cX4_allAnew 79 = .ok (.iconst 0, 1) := by decide +kernel
theorem dX4_allAnew_80 : decode cX4_allAnew 80 = .ok (.putfield 96, 3) := by decide +kernel
theorem dX4_allAnew_83 : decode cX4_allAnew 83 = .ok (.return_, 1) := by decide +kernel
theorem dX4_frees_0 : decode cX4_frees 0 = .ok (.aload_n 0, 1) := by decide +kernel
theorem dX4_frees_1 : decode cX4_frees 1 = .ok (.getfield 19, 3) := by decide +kernel
theorem dX4_frees_4 : decode cX4_frees 4 = .ok (.iload_n 1, 1) := by decide +kernel
theorem dX4_frees_5 : decode cX4_frees 5 = .ok (.iconst 0, 1) := by decide +kernel
theorem dX4_frees_6 : decode cX4_frees 6 = .ok (.iastore, 1) := by decide +kernel
theorem dX4_frees_7 : decode cX4_frees 7 = .ok (.aload_n 0, 1) := by decide +kernel
theorem dX4_frees_8 : decode cX4_frees 8 = .ok (.getfield 31, 3) := by decide +kernel
theorem dX4_frees_11 : decode cX4_frees 11 = .ok (.iload_n 1, 1) := by decide +kernel
theorem dX4_frees_12 : decode cX4_frees 12 = .ok (.iload_n 2, 1) := by decide +kernel
theorem dX4_frees_13 : decode cX4_frees 13 = .ok (.bastore, 1) := by decide +kernel
theorem dX4_frees_14 : decode cX4_frees 14 = .ok (.aload_n 0, 1) := by decide +kernel
theorem dX4_frees_15 : decode cX4_frees 15 = .ok (.getfield 35, 3) := by decide +kernel
theorem dX4_frees_18 : decode cX4_frees 18 = .ok (.iload_n 1, 1) := by decide +kernel
theorem dX4_frees_19 : decode cX4_frees 19 = .ok (.iconst 0, 1) := by decide +kernel
theorem dX4_frees_20 : decode cX4_frees 20 = .ok (.iastore, 1) := by decide +kernel
theorem dX4_frees_21 : decode cX4_frees 21 = .ok (.aload_n 0, 1) := by decide +kernel
theorem dX4_frees_22 : decode cX4_frees 22 = .ok (.getfield 38, 3) := by decide +kernel
theorem dX4_frees_25 : decode cX4_frees 25 = .ok (.iload_n 1, 1) := by decide +kernel
theorem dX4_frees_26 : decode cX4_frees 26 = .ok (.iconst 0, 1) := by decide +kernel
theorem dX4_frees_27 : decode cX4_frees 27 = .ok (.iastore, 1) := by decide +kernel
theorem dX4_frees_28 : decode cX4_frees 28 = .ok (.aload_n 0, 1) := by decide +kernel
theorem dX4_frees_29 : decode cX4_frees 29 = .ok (.getfield 22, 3) := by decide +kernel
theorem dX4_frees_32 : decode cX4_frees 32 = .ok (.iload_n 1, 1) := by decide +kernel
theorem dX4_frees_33 : decode cX4_frees 33 = .ok (.iconst 0, 1) := by decide +kernel
theorem dX4_frees_34 : decode cX4_frees 34 = .ok (.iastore, 1) := by decide +kernel
theorem dX4_frees_35 : decode cX4_frees 35 = .ok (.iload_n 2, 1) := by decide +kernel
theorem dX4_frees_36 : decode cX4_frees 36 = .ok (.ifCond .ne 17, 3) := by decide +kernel
theorem dX4_frees_39 : decode cX4_frees 39 = .ok (.aload_n 0, 1) := by decide +kernel
theorem dX4_frees_40 : decode cX4_frees 40 = .ok (.getfield 25, 3) := by decide +kernel
theorem dX4_frees_43 : decode cX4_frees 43 = .ok (.iload_n 1, 1) := by decide +kernel
theorem dX4_frees_44 : decode cX4_frees 44 = .ok (.iconst 0, 1) := by decide +kernel
theorem dX4_frees_45 : decode cX4_frees 45 = .ok (.iastore, 1) := by decide +kernel
theorem dX4_frees_46 : decode cX4_frees 46 = .ok (.aload_n 0, 1) := by decide +kernel
theorem dX4_frees_47 : decode cX4_frees 47 = .ok (.getfield 28, 3) := by decide +kernel
theorem dX4_frees_50 : decode cX4_frees 50 = .ok (.iload_n 1, 1) := by decide +kernel
theorem dX4_frees_51 : decode cX4_frees 51 = .ok (.iconst 0, 1) := by decide +kernel
theorem dX4_frees_52 : decode cX4_frees 52 = .ok (.iastore, 1) := by decide +kernel
theorem dX4_frees_53 : decode cX4_frees 53 = .ok (.return_, 1) := by decide +kernel
theorem dX4_opens_0 : decode cX4_opens 0 = .ok (.aload_n 0, 1) := by decide +kernel
theorem dX4_opens_1 : decode cX4_opens 1 = .ok (.getfield 19, 3) := by decide +kernel
theorem dX4_opens_4 : decode cX4_opens 4 = .ok (.iload_n 1, 1) := by decide +kernel
theorem dX4_opens_5 : decode cX4_opens 5 = .ok (.iconst 1, 1) := by decide +kernel
theorem dX4_opens_6 : decode cX4_opens 6 = .ok (.iastore, 1) := by decide +kernel
theorem dX4_opens_7 : decode cX4_opens 7 = .ok (.aload_n 0, 1) := by decide +kernel
theorem dX4_opens_8 : decode cX4_opens 8 = .ok (.getfield 31, 3) := by decide +kernel
theorem dX4_opens_11 : decode cX4_opens 11 = .ok (.iload_n 1, 1) := by decide +kernel
theorem dX4_opens_12 : decode cX4_opens 12 = .ok (.iconst 0, 1) := by decide +kernel
theorem dX4_opens_13 : decode cX4_opens 13 = .ok (.bastore, 1) := by decide +kernel
theorem dX4_opens_14 : decode cX4_opens 14 = .ok (.aload_n 0, 1) := by decide +kernel
theorem dX4_opens_15 : decode cX4_opens 15 = .ok (.getfield 35, 3) := by decide +kernel
theorem dX4_opens_18 : decode cX4_opens 18 = .ok (.iload_n 1, 1) := by decide +kernel
theorem dX4_opens_19 : decode cX4_opens 19 = .ok (.iconst 0, 1) := by decide +kernel
theorem dX4_opens_20 : decode cX4_opens 20 = .ok (.iastore, 1) := by decide +kernel
theorem dX4_opens_21 : decode cX4_opens 21 = .ok (.aload_n 0, 1) := by decide +kernel
theorem dX4_opens_22 : decode cX4_opens 22 = .ok (.getfield 38, 3) := by decide +kernel
theorem dX4_opens_25 : decode cX4_opens 25 = .ok (.iload_n 1, 1) := by decide +kernel
theorem dX4_opens_26 : decode cX4_opens 26 = .ok (.iconst 0, 1) := by decide +kernel
theorem dX4_opens_27 : decode cX4_opens 27 = .ok (.iastore, 1) := by decide +kernel
theorem dX4_opens_28 : decode cX4_opens 28 = .ok (.aload_n 0, 1) := by decide +kernel
theorem dX4_opens_29 : decode cX4_opens 29 = .ok (.getfield 22, 3) := by decide +kernel
theorem dX4_opens_32 : decode cX4_opens 32 = .ok (.iload_n 1, 1) := by decide +kernel
theorem dX4_opens_33 : decode cX4_opens 33 = .ok (.aload_n 0, 1) := by decide +kernel
theorem dX4_opens_34 : decode cX4_opens 34 = .ok (.getfield 81, 3) := by decide +kernel
theorem dX4_opens_37 : decode cX4_opens 37 = .ok (.iastore, 1) := by decide +kernel
theorem dX4_opens_38 : decode cX4_opens 38 = .ok (.return_, 1) := by decide +kernel
theorem dX4_inState_0 : decode cX4_inState 0 = .ok (.iconst 0, 1) := by decide +kernel
theorem dX4_inState_1 : decode cX4_inState 1 = .ok (.istore_n 2, 1) := by decide +kernel
theorem dX4_inState_2 : decode cX4_inState 2 = .ok (.iconst 0, 1) := by decide +kernel
theorem dX4_inState_3 : decode cX4_inState 3 = .ok (.istore_n 3, 1) := by decide +kernel
theorem dX4_inState_4 : decode cX4_inState 4 = .ok (.iload_n 3, 1) := by decide +kernel
theorem dX4_inState_5 : decode cX4_inState 5 = .ok (.bipush 6, 2) := by decide +kernel
theorem dX4_inState_7 : decode cX4_inState 7 = .ok (.if_icmp .ge 27, 3) := by decide +kernel
theorem dX4_inState_10 : decode cX4_inState 10 = .ok (.iload_n 2, 1) := by decide +kernel
theorem dX4_inState_11 : decode cX4_inState 11 = .ok (.aload_n 0, 1) := by decide +kernel
theorem dX4_inState_12 : decode cX4_inState 12 = .ok (.getfield 19, 3) := by decide +kernel
theorem dX4_inState_15 : decode cX4_inState 15 = .ok (.iload_n 3, 1) := by decide +kernel
theorem dX4_inState_16 : decode cX4_inState 16 = .ok (.iaload, 1) := by decide +kernel
theorem dX4_inState_17 : decode cX4_inState 17 = .ok (.iload_n 1, 1) := by decide +kernel
theorem dX4_inState_18 : decode cX4_inState 18 = .ok (.if_icmp .ne 7, 3) := by decide +kernel
theorem dX4_inState_21 : decode cX4_inState 21 = .ok (.iconst 1, 1) := by decide +kernel
theorem dX4_inState_22 : decode cX4_inState 22 = .ok (.goto 4, 3) := by decide +kernel
theorem dX4_inState_25 : decode cX4_inState 25 = .ok (.iconst 0, 1) := by decide +kernel
theorem dX4_inState_26 : decode cX4_inState 26 = .ok (.iadd, 1) := by decide +kernel
theorem dX4_inState_27 : decode cX4_inState 27 = .ok (.istore_n 2, 1) := by decide +kernel
theorem dX4_inState_28 : decode cX4_inState 28 = .ok (.iinc 3 1, 3) := by decide +kernel
theorem dX4_inState_31 : decode cX4_inState 31 = .ok (.goto (-27), 3) := by decide +kernel
theorem dX4_inState_34 : decode cX4_inState 34 = .ok (.iload_n 2, 1) := by decide +kernel
theorem dX4_inState_35 : decode cX4_inState 35 = .ok (.ireturn, 1) := by decide +kernel
theorem dX4_write_0 : decode cX4_write 0 = .ok (.iload_n 1, 1) := by decide +kernel
theorem dX4_write_1 : decode cX4_write 1 = .ok (.i2l, 1) := by decide +kernel
theorem dX4_write_2 : decode cX4_write 2 = .ok (.lconst 0, 1) := by decide +kernel
theorem dX4_write_3 : decode cX4_write 3 = .ok (.ldc2_w 99, 3) := by decide +kernel
theorem dX4_write_6 : decode cX4_write 6 = .ok (.invokestatic 71, 3) := by decide +kernel
theorem dX4_write_9 : decode cX4_write 9 = .ok (.ifCond .ne 6, 3) := by decide +kernel
theorem dX4_write_12 : decode cX4_write 12 = .ok (.bipush (-3), 2) := by decide +kernel
theorem dX4_write_14 : decode cX4_write 14 = .ok (.ireturn, 1) := by decide +kernel
theorem dX4_write_15 : decode cX4_write 15 = .ok (.aload_n 0, 1) := by decide +kernel
theorem dX4_write_16 : decode cX4_write 16 = .ok (.getfield 101, 3) := by decide +kernel
theorem dX4_write_19 : decode cX4_write 19 = .ok (.sipush 200, 3) := by decide +kernel
theorem dX4_write_22 : decode cX4_write 22 = .ok (.if_icmp .ne 6, 3) := by decide +kernel
theorem dX4_write_25 : decode cX4_write 25 = .ok (.bipush (-5), 2) := by decide +kernel
theorem dX4_write_27 : decode cX4_write 27 = .ok (.ireturn, 1) := by decide +kernel
theorem dX4_write_28 : decode cX4_write 28 = .ok (.aload_n 0, 1) := by decide +kernel
theorem dX4_write_29 : decode cX4_write 29 = .ok (.getfield 60, 3) := by decide +kernel
theorem dX4_write_32 : decode cX4_write 32 = .ok (.aload_n 0, 1) := by decide +kernel
theorem dX4_write_33 : decode cX4_write 33 = .ok (.getfield 101, 3) := by decide +kernel
theorem dX4_write_36 : decode cX4_write 36 = .ok (.iload_n 1, 1) := by decide +kernel
theorem dX4_write_37 : decode cX4_write 37 = .ok (.iastore, 1) := by decide +kernel
theorem dX4_write_38 : decode cX4_write 38 = .ok (.aload_n 0, 1) := by decide +kernel
theorem dX4_write_39 : decode cX4_write 39 = .ok (.dup, 1) := by decide +kernel
theorem dX4_write_40 : decode cX4_write 40 = .ok (.getfield 101, 3) := by decide +kernel
theorem dX4_write_43 : decode cX4_write 43 = .ok (.iconst 1, 1) := by decide +kernel
theorem dX4_write_44 : decode cX4_write 44 = .ok (.iadd, 1) := by decide +kernel
theorem dX4_write_45 : decode cX4_write 45 = .ok (.putfield 101, 3) := by decide +kernel
theorem dX4_write_48 : decode cX4_write 48 = .ok (.aload_n 0, 1) := by decide +kernel
theorem dX4_write_49 : decode cX4_write 49 = .ok (.getfield 101, 3) := by decide +kernel
theorem dX4_write_52 : decode cX4_write 52 = .ok (.ireturn, 1) := by decide +kernel
theorem dX4_erase_0 : decode cX4_erase 0 = .ok (.aload_n 0, 1) := by decide +kernel
theorem dX4_erase_1 : decode cX4_erase 1 = .ok (.getfield 101, 3) := by decide +kernel
theorem dX4_erase_4 : decode cX4_erase 4 = .ok (.istore_n 1, 1) := by decide +kernel
theorem dX4_erase_5 : decode cX4_erase 5 = .ok (.aload_n 0, 1) := by decide +kernel
theorem dX4_erase_6 : decode cX4_erase 6 = .ok (.iconst 0, 1) := by decide +kernel
theorem dX4_erase_7 : decode cX4_erase 7 = .ok (.putfield 101, 3) := by decide +kernel
theorem dX4_erase_10 : decode cX4_erase 10 = .ok (.iload_n 1, 1) := by decide +kernel
theorem dX4_erase_11 : decode cX4_erase 11 = .ok (.ireturn, 1) := by decide +kernel
theorem dX4_isSmall_0 : decode cX4_isSmall 0 = .ok (.iload_n 0, 1) := by decide +kernel
theorem dX4_isSmall_1 : decode cX4_isSmall 1 = .ok (.i2l, 1) := by decide +kernel
theorem dX4_isSmall_2 : decode cX4_isSmall 2 = .ok (.ldc2_w 104, 3) := by decide +kernel
theorem dX4_isSmall_5 : decode cX4_isSmall 5 = .ok (.ldc2_w 106, 3) := by decide +kernel
theorem dX4_isSmall_8 : decode cX4_isSmall 8 = .ok (.invokestatic 71, 3) := by decide +kernel
theorem dX4_isSmall_11 : decode cX4_isSmall 11 = .ok (.ireturn, 1) := by decide +kernel
theorem dX4_isDigit_0 : decode cX4_isDigit 0 = .ok (.iload_n 0, 1) := by decide +kernel
theorem dX4_isDigit_1 : decode cX4_isDigit 1 = .ok (.i2l, 1) := by decide +kernel
theorem dX4_isDigit_2 : decode cX4_isDigit 2 = .ok (.ldc2_w 108, 3) := by decide +kernel
theorem dX4_isDigit_5 : decode cX4_isDigit 5 = .ok (.ldc2_w 110, 3) := by decide +kernel
theorem dX4_isDigit_8 : decode cX4_isDigit 8 = .ok (.invokestatic 71, 3) := by decide +kernel
theorem dX4_isDigit_11 : decode cX4_isDigit 11 = .ok (.ireturn, 1) := by decide +kernel
theorem dX4_next_0 : decode cX4_next 0 = .ok (.aload_n 0, 1) := by decide +kernel
theorem dX4_next_1 : decode cX4_next 1 = .ok (.aload_n 0, 1) := by decide +kernel
theorem dX4_next_2 : decode cX4_next 2 = .ok (.getfield 112, 3) := by decide +kernel
theorem dX4_next_5 : decode cX4_next 5 = .ok (.putfield 115, 3) := by decide +kernel
theorem dX4_next_8 : decode cX4_next 8 = .ok (.aload_n 0, 1) := by decide +kernel
theorem dX4_next_9 : decode cX4_next 9 = .ok (.getfield 115, 3) := by decide +kernel
theorem dX4_next_12 : decode cX4_next 12 = .ok (.aload_n 0, 1) := by decide +kernel
theorem dX4_next_13 : decode cX4_next 13 = .ok (.getfield 101, 3) := by decide +kernel
theorem dX4_next_16 : decode cX4_next 16 = .ok (.if_icmp .ge 30, 3) := by decide +kernel
theorem dX4_next_19 : decode cX4_next 19 = .ok (.aload_n 0, 1) := by decide +kernel
theorem dX4_next_20 : decode cX4_next 20 = .ok (.getfield 60, 3) := by decide +kernel
theorem dX4_next_23 : decode cX4_next 23 = .ok (.aload_n 0, 1) := by decide +kernel
theorem dX4_next_24 : decode cX4_next 24 = .ok (.getfield 115, 3) := by decide +kernel
theorem dX4_next_27 : decode cX4_next 27 = .ok (.iaload, 1) := by decide +kernel
theorem dX4_next_28 : decode cX4_next 28 = .ok (.bipush 32, 2) := by decide +kernel
theorem dX4_next_30 : decode cX4_next 30 = .ok (.if_icmp .ne 16, 3) := by decide +kernel
theorem dX4_next_33 : decode cX4_next 33 = .ok (.aload_n 0, 1) := by decide +kernel
theorem dX4_next_34 : decode cX4_next 34 = .ok (.dup, 1) := by decide +kernel
theorem dX4_next_35 : decode cX4_next 35 = .ok (.getfield 115, 3) := by decide +kernel
theorem dX4_next_38 : decode cX4_next 38 = .ok (.iconst 1, 1) := by decide +kernel
theorem dX4_next_39 : decode cX4_next 39 = .ok (.iadd, 1) := by decide +kernel
theorem dX4_next_40 : decode cX4_next 40 = .ok (.putfield 115, 3) := by decide +kernel
theorem dX4_next_43 : decode cX4_next 43 = .ok (.goto (-35), 3) := by decide +kernel
theorem dX4_next_46 : decode cX4_next 46 = .ok (.aload_n 0, 1) := by decide +kernel
theorem dX4_next_47 : decode cX4_next 47 = .ok (.aload_n 0, 1) := by decide +kernel
theorem dX4_next_48 : decode cX4_next 48 = .ok (.getfield 115, 3) := by decide +kernel
theorem dX4_next_51 : decode cX4_next 51 = .ok (.aload_n 0, 1) := by decide +kernel
theorem dX4_next_52 : decode cX4_next 52 = .ok (.getfield 101, 3) := by decide +kernel
theorem dX4_next_55 : decode cX4_next 55 = .ok (.if_icmp .ge 12, 3) := by decide +kernel
theorem dX4_next_58 : decode cX4_next 58 = .ok (.aload_n 0, 1) := by decide +kernel
theorem dX4_next_59 : decode cX4_next 59 = .ok (.getfield 115, 3) := by decide +kernel
theorem dX4_next_62 : decode cX4_next 62 = .ok (.iconst 1, 1) := by decide +kernel
theorem dX4_next_63 : decode cX4_next 63 = .ok (.iadd, 1) := by decide +kernel
theorem dX4_next_64 : decode cX4_next 64 = .ok (.goto 7, 3) := by decide +kernel
theorem dX4_next_67 : decode cX4_next 67 = .ok (.aload_n 0, 1) := by decide +kernel
theorem dX4_next_68 : decode cX4_next 68 = .ok (.getfield 115, 3) := by decide +kernel
theorem dX4_next_71 : decode cX4_next 71 = .ok (.putfield 112, 3) := by decide +kernel
theorem dX4_next_74 : decode cX4_next 74 = .ok (.aload_n 0, 1) := by decide +kernel
theorem dX4_next_75 : decode cX4_next 75 = .ok (.getfield 115, 3) := by decide +kernel
theorem dX4_next_78 : decode cX4_next 78 = .ok (.aload_n 0, 1) := by decide +kernel
theorem dX4_next_79 : decode cX4_next 79 = .ok (.getfield 101, 3) := by decide +kernel
theorem dX4_next_82 : decode cX4_next 82 = .ok (.if_icmp .ge 22, 3) := by decide +kernel
theorem dX4_next_85 : decode cX4_next 85 = .ok (.aload_n 0, 1) := by decide +kernel
theorem dX4_next_86 : decode cX4_next 86 = .ok (.getfield 60, 3) := by decide +kernel
theorem dX4_next_89 : decode cX4_next 89 = .ok (.aload_n 0, 1) := by decide +kernel
theorem dX4_next_90 : decode cX4_next 90 = .ok (.getfield 115, 3) := by decide +kernel
theorem dX4_next_93 : decode cX4_next 93 = .ok (.iaload, 1) := by decide +kernel
theorem dX4_next_94 : decode cX4_next 94 = .ok (.invokestatic 118, 3) := by decide +kernel
theorem dX4_next_97 : decode cX4_next 97 = .ok (.ifCond .eq 7, 3) := by decide +kernel
theorem dX4_next_100 : decode cX4_next 100 = .ok (.iconst 1, 1) := by decide +kernel
theorem dX4_next_101 : decode cX4_next 101 = .ok (.goto 4, 3) := by decide +kernel
theorem dX4_next_104 : decode cX4_next 104 = .ok (.iconst 0, 1) := by decide +kernel
theorem dX4_next_105 : decode cX4_next 105 = .ok (.istore_n 1, 1) := by decide +kernel
theorem dX4_next_106 : decode cX4_next 106 = .ok (.aload_n 0, 1) := by decide +kernel
theorem dX4_next_107 : decode cX4_next 107 = .ok (.getfield 115, 3) := by decide +kernel
theorem dX4_next_110 : decode cX4_next 110 = .ok (.aload_n 0, 1) := by decide +kernel
theorem dX4_next_111 : decode cX4_next 111 = .ok (.getfield 101, 3) := by decide +kernel
theorem dX4_next_114 : decode cX4_next 114 = .ok (.if_icmp .ge 22, 3) := by decide +kernel
theorem dX4_next_117 : decode cX4_next 117 = .ok (.aload_n 0, 1) := by decide +kernel
theorem dX4_next_118 : decode cX4_next 118 = .ok (.getfield 60, 3) := by decide +kernel
theorem dX4_next_121 : decode cX4_next 121 = .ok (.aload_n 0, 1) := by decide +kernel
theorem dX4_next_122 : decode cX4_next 122 = .ok (.getfield 115, 3) := by decide +kernel
theorem dX4_next_125 : decode cX4_next 125 = .ok (.iaload, 1) := by decide +kernel
theorem dX4_next_126 : decode cX4_next 126 = .ok (.invokestatic 122, 3) := by decide +kernel
theorem dX4_next_129 : decode cX4_next 129 = .ok (.ifCond .eq 7, 3) := by decide +kernel
theorem dX4_next_132 : decode cX4_next 132 = .ok (.iconst 1, 1) := by decide +kernel
theorem dX4_next_133 : decode cX4_next 133 = .ok (.goto 4, 3) := by decide +kernel
theorem dX4_next_136 : decode cX4_next 136 = .ok (.iconst 0, 1) := by decide +kernel
theorem dX4_next_137 : decode cX4_next 137 = .ok (.istore_n 2, 1) := by decide +kernel
theorem dX4_next_138 : decode cX4_next 138 = .ok (.aload_n 0, 1) := by decide +kernel
theorem dX4_next_139 : decode cX4_next 139 = .ok (.getfield 112, 3) := by decide +kernel
theorem dX4_next_142 : decode cX4_next 142 = .ok (.aload_n 0, 1) := by decide +kernel
theorem dX4_next_143 : decode cX4_next 143 = .ok (.getfield 101, 3) := by decide +kernel
theorem dX4_next_146 : decode cX4_next 146 = .ok (.if_icmp .ge 54, 3) := by decide +kernel
theorem dX4_next_149 : decode cX4_next 149 = .ok (.iload_n 1, 1) := by decide +kernel
theorem dX4_next_150 : decode cX4_next 150 = .ok (.ifCond .eq 18, 3) := by decide +kernel
theorem dX4_next_153 : decode cX4_next 153 = .ok (.aload_n 0, 1) := by decide +kernel
theorem dX4_next_154 : decode cX4_next 154 = .ok (.getfield 60, 3) := by decide +kernel
theorem dX4_next_157 : decode cX4_next 157 = .ok (.aload_n 0, 1) := by decide +kernel
theorem dX4_next_158 : decode cX4_next 158 = .ok (.getfield 112, 3) := by decide +kernel
theorem dX4_next_161 : decode cX4_next 161 = .ok (.iaload, 1) := by decide +kernel
theorem dX4_next_162 : decode cX4_next 162 = .ok (.invokestatic 118, 3) := by decide +kernel
theorem dX4_next_165 : decode cX4_next 165 = .ok (.ifCond .ne 22, 3) := by decide +kernel
theorem dX4_next_168 : decode cX4_next 168 = .ok (.iload_n 2, 1) := by decide +kernel
theorem dX4_next_169 : decode cX4_next 169 = .ok (.ifCond .eq 31, 3) := by decide +kernel
theorem dX4_next_172 : decode cX4_next 172 = .ok (.aload_n 0, 1) := by decide +kernel
theorem dX4_next_173 : decode cX4_next 173 = .ok (.getfield 60, 3) := by decide +kernel
theorem dX4_next_176 : decode cX4_next 176 = .ok (.aload_n 0, 1) := by decide +kernel
theorem dX4_next_177 : decode cX4_next 177 = .ok (.getfield 112, 3) := by decide +kernel
theorem dX4_next_180 : decode cX4_next 180 = .ok (.iaload, 1) := by decide +kernel
theorem dX4_next_181 : decode cX4_next 181 = .ok (.invokestatic 122, 3) := by decide +kernel
theorem dX4_next_184 : decode cX4_next 184 = .ok (.ifCond .eq 16, 3) := by decide +kernel
theorem dX4_next_187 : decode cX4_next 187 = .ok (.aload_n 0, 1) := by decide +kernel
theorem dX4_next_188 : decode cX4_next 188 = .ok (.dup, 1) := by decide +kernel
theorem dX4_next_189 : decode cX4_next 189 = .ok (.getfield 112, 3) := by decide +kernel
theorem dX4_next_192 : decode cX4_next 192 = .ok (.iconst 1, 1) := by decide +kernel
theorem dX4_next_193 : decode cX4_next 193 = .ok (.iadd, 1) := by decide +kernel
theorem dX4_next_194 : decode cX4_next 194 = .ok (.putfield 112, 3) := by decide +kernel
theorem dX4_next_197 : decode cX4_next 197 = .ok (.goto (-59), 3) := by decide +kernel
theorem dX4_next_200 : decode cX4_next 200 = .ok (.return_, 1) := by decide +kernel
theorem dX4_wordHere_0 : decode cX4_wordHere 0 = .ok (.iconst 0, 1) := by decide +kernel
theorem dX4_wordHere_1 : decode cX4_wordHere 1 = .ok (.istore_n 1, 1) := by decide +kernel
theorem dX4_wordHere_2 : decode cX4_wordHere 2 = .ok (.iload_n 1, 1) := by decide +kernel
theorem dX4_wordHere_3 : decode cX4_wordHere 3 = .ok (.bipush 7, 2) := by decide +kernel
theorem dX4_wordHere_5 : decode cX4_wordHere 5 = .ok (.if_icmp .ge 110, 3) := by decide +kernel
theorem dX4_wordHere_8 : decode cX4_wordHere 8 = .ok (.aload_n 0, 1) := by decide +kernel
theorem dX4_wordHere_9 : decode cX4_wordHere 9 = .ok (.getfield 112, 3) := by decide +kernel
theorem dX4_wordHere_12 : decode cX4_wordHere 12 = .ok (.aload_n 0, 1) := by decide +kernel
theorem dX4_wordHere_13 : decode cX4_wordHere 13 = .ok (.getfield 115, 3) := by decide +kernel
theorem dX4_wordHere_16 : decode cX4_wordHere 16 = .ok (.if_icmp .le 21, 3) := by decide +kernel
theorem dX4_wordHere_19 : decode cX4_wordHere 19 = .ok (.aload_n 0, 1) := by decide +kernel
theorem dX4_wordHere_20 : decode cX4_wordHere 20 = .ok (.getfield 112, 3) := by decide +kernel
theorem dX4_wordHere_23 : decode cX4_wordHere 23 = .ok (.aload_n 0, 1) := by decide +kernel
theorem dX4_wordHere_24 : decode cX4_wordHere 24 = .ok (.getfield 115, 3) := by decide +kernel
theorem dX4_wordHere_27 : decode cX4_wordHere 27 = .ok (.isub, 1) := by decide +kernel
theorem dX4_wordHere_28 : decode cX4_wordHere 28 = .ok (.bipush 6, 2) := by decide +kernel
theorem dX4_wordHere_30 : decode cX4_wordHere 30 = .ok (.if_icmp .ge 7, 3) := by decide +kernel
theorem dX4_wordHere_33 : decode cX4_wordHere 33 = .ok (.iconst 1, 1) := by decide +kernel
