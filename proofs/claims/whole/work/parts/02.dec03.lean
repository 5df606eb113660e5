theorem dX4_wordHere_34 : decode cX4_wordHere 34 = .ok (.goto 4, 3) := by decide +kernel
theorem dX4_wordHere_37 : decode cX4_wordHere 37 = .ok (.iconst 0, 1) := by decide +kernel
theorem dX4_wordHere_38 : decode cX4_wordHere 38 = .ok (.istore_n 2, 1) := by decide +kernel
theorem dX4_wordHere_39 : decode cX4_wordHere 39 = .ok (.iconst 0, 1) := by decide +kernel
theorem dX4_wordHere_40 : decode cX4_wordHere 40 = .ok (.istore_n 3, 1) := by decide +kernel
theorem dX4_wordHere_41 : decode cX4_wordHere 41 = .ok (.iload_n 3, 1) := by decide +kernel
theorem dX4_wordHere_42 : decode cX4_wordHere 42 = .ok (.iconst 5, 1) := by decide +kernel
theorem dX4_wordHere_43 : decode cX4_wordHere 43 = .ok (.if_icmp .ge 60, 3) := by decide +kernel
theorem dX4_wordHere_46 : decode cX4_wordHere 46 = .ok (.iload_n 2, 1) := by decide +kernel
theorem dX4_wordHere_47 : decode cX4_wordHere 47 = .ok (.ifCond .eq 56, 3) := by decide +kernel
theorem dX4_wordHere_50 : decode cX4_wordHere 50 = .ok (.aload_n 0, 1) := by decide +kernel
theorem dX4_wordHere_51 : decode cX4_wordHere 51 = .ok (.getfield 66, 3) := by decide +kernel
theorem dX4_wordHere_54 : decode cX4_wordHere 54 = .ok (.iconst 5, 1) := by decide +kernel
theorem dX4_wordHere_55 : decode cX4_wordHere 55 = .ok (.iload_n 1, 1) := by decide +kernel
theorem dX4_wordHere_56 : decode cX4_wordHere 56 = .ok (.imul, 1) := by decide +kernel
theorem dX4_wordHere_57 : decode cX4_wordHere 57 = .ok (.iload_n 3, 1) := by decide +kernel
theorem dX4_wordHere_58 : decode cX4_wordHere 58 = .ok (.iadd, 1) := by decide +kernel
theorem dX4_wordHere_59 : decode cX4_wordHere 59 = .ok (.iaload, 1) := by decide +kernel
theorem dX4_wordHere_60 : decode cX4_wordHere 60 = .ok (.aload_n 0, 1) := by decide +kernel
theorem dX4_wordHere_61 : decode cX4_wordHere 61 = .ok (.getfield 115, 3) := by decide +kernel
theorem dX4_wordHere_64 : decode cX4_wordHere 64 = .ok (.iload_n 3, 1) := by decide +kernel
theorem dX4_wordHere_65 : decode cX4_wordHere 65 = .ok (.iadd, 1) := by decide +kernel
theorem dX4_wordHere_66 : decode cX4_wordHere 66 = .ok (.aload_n 0, 1) := by decide +kernel
theorem dX4_wordHere_67 : decode cX4_wordHere 67 = .ok (.getfield 112, 3) := by decide +kernel
theorem dX4_wordHere_70 : decode cX4_wordHere 70 = .ok (.if_icmp .ge 17, 3) := by decide +kernel
theorem dX4_wordHere_73 : decode cX4_wordHere 73 = .ok (.aload_n 0, 1) := by decide +kernel
theorem dX4_wordHere_74 : decode cX4_wordHere 74 = .ok (.getfield 60, 3) := by decide +kernel
theorem dX4_wordHere_77 : decode cX4_wordHere 77 = .ok (.aload_n 0, 1) := by decide +kernel
theorem dX4_wordHere_78 : decode cX4_wordHere 78 = .ok (.getfield 115, 3) := by decide +kernel
theorem dX4_wordHere_81 : decode cX4_wordHere 81 = .ok (.iload_n 3, 1) := by decide +kernel
theorem dX4_wordHere_82 : decode cX4_wordHere 82 = .ok (.iadd, 1) := by decide +kernel
theorem dX4_wordHere_83 : decode cX4_wordHere 83 = .ok (.iaload, 1) := by decide +kernel
theorem dX4_wordHere_84 : decode cX4_wordHere 84 = .ok (.goto 4, 3) := by decide +kernel
theorem dX4_wordHere_87 : decode cX4_wordHere 87 = .ok (.iconst 0, 1) := by decide +kernel
theorem dX4_wordHere_88 : decode cX4_wordHere 88 = .ok (.if_icmp .ne 7, 3) := by decide +kernel
theorem dX4_wordHere_91 : decode cX4_wordHere 91 = .ok (.iconst 1, 1) := by decide +kernel
theorem dX4_wordHere_92 : decode cX4_wordHere 92 = .ok (.goto 4, 3) := by decide +kernel
theorem dX4_wordHere_95 : decode cX4_wordHere 95 = .ok (.iconst 0, 1) := by decide +kernel
theorem dX4_wordHere_96 : decode cX4_wordHere 96 = .ok (.istore_n 2, 1) := by decide +kernel
theorem dX4_wordHere_97 : decode cX4_wordHere 97 = .ok (.iinc 3 1, 3) := by decide +kernel
theorem dX4_wordHere_100 : decode cX4_wordHere 100 = .ok (.goto (-59), 3) := by decide +kernel
theorem dX4_wordHere_103 : decode cX4_wordHere 103 = .ok (.iload_n 2, 1) := by decide +kernel
theorem dX4_wordHere_104 : decode cX4_wordHere 104 = .ok (.ifCond .eq 5, 3) := by decide +kernel
theorem dX4_wordHere_107 : decode cX4_wordHere 107 = .ok (.iload_n 1, 1) := by decide +kernel
theorem dX4_wordHere_108 : decode cX4_wordHere 108 = .ok (.ireturn, 1) := by decide +kernel
theorem dX4_wordHere_109 : decode cX4_wordHere 109 = .ok (.iinc 1 1, 3) := by decide +kernel
theorem dX4_wordHere_112 : decode cX4_wordHere 112 = .ok (.goto (-110), 3) := by decide +kernel
theorem dX4_wordHere_115 : decode cX4_wordHere 115 = .ok (.iconst (-1), 1) := by decide +kernel
theorem dX4_wordHere_116 : decode cX4_wordHere 116 = .ok (.ireturn, 1) := by decide +kernel
theorem dX4_reads_0 : decode cX4_reads 0 = .ok (.aload_n 0, 1) := by decide +kernel
theorem dX4_reads_1 : decode cX4_reads 1 = .ok (.getfield 115, 3) := by decide +kernel
theorem dX4_reads_4 : decode cX4_reads 4 = .ok (.aload_n 0, 1) := by decide +kernel
theorem dX4_reads_5 : decode cX4_reads 5 = .ok (.getfield 101, 3) := by decide +kernel
theorem dX4_reads_8 : decode cX4_reads 8 = .ok (.if_icmp .eq 31, 3) := by decide +kernel
theorem dX4_reads_11 : decode cX4_reads 11 = .ok (.aload_n 0, 1) := by decide +kernel
theorem dX4_reads_12 : decode cX4_reads 12 = .ok (.getfield 60, 3) := by decide +kernel
theorem dX4_reads_15 : decode cX4_reads 15 = .ok (.aload_n 0, 1) := by decide +kernel
theorem dX4_reads_16 : decode cX4_reads 16 = .ok (.getfield 115, 3) := by decide +kernel
theorem dX4_reads_19 : decode cX4_reads 19 = .ok (.iaload, 1) := by decide +kernel
theorem dX4_reads_20 : decode cX4_reads 20 = .ok (.invokestatic 122, 3) := by decide +kernel
theorem dX4_reads_23 : decode cX4_reads 23 = .ok (.ifCond .eq 16, 3) := by decide +kernel
theorem dX4_reads_26 : decode cX4_reads 26 = .ok (.aload_n 0, 1) := by decide +kernel
theorem dX4_reads_27 : decode cX4_reads 27 = .ok (.getfield 112, 3) := by decide +kernel
theorem dX4_reads_30 : decode cX4_reads 30 = .ok (.aload_n 0, 1) := by decide +kernel
theorem dX4_reads_31 : decode cX4_reads 31 = .ok (.getfield 115, 3) := by decide +kernel
theorem dX4_reads_34 : decode cX4_reads 34 = .ok (.isub, 1) := by decide +kernel
theorem dX4_reads_35 : decode cX4_reads 35 = .ok (.iconst 4, 1) := by decide +kernel
theorem dX4_reads_36 : decode cX4_reads 36 = .ok (.if_icmp .le 5, 3) := by decide +kernel
theorem dX4_reads_39 : decode cX4_reads 39 = .ok (.iconst 0, 1) := by decide +kernel
theorem dX4_reads_40 : decode cX4_reads 40 = .ok (.ireturn, 1) := by decide +kernel
theorem dX4_reads_41 : decode cX4_reads 41 = .ok (.iconst 0, 1) := by decide +kernel
theorem dX4_reads_42 : decode cX4_reads 42 = .ok (.istore 4, 2) := by decide +kernel
theorem dX4_reads_44 : decode cX4_reads 44 = .ok (.aload_n 0, 1) := by decide +kernel
theorem dX4_reads_45 : decode cX4_reads 45 = .ok (.getfield 115, 3) := by decide +kernel
theorem dX4_reads_48 : decode cX4_reads 48 = .ok (.istore 5, 2) := by decide +kernel
theorem dX4_reads_50 : decode cX4_reads 50 = .ok (.iload 5, 2) := by decide +kernel
theorem dX4_reads_52 : decode cX4_reads 52 = .ok (.aload_n 0, 1) := by decide +kernel
theorem dX4_reads_53 : decode cX4_reads 53 = .ok (.getfield 112, 3) := by decide +kernel
theorem dX4_reads_56 : decode cX4_reads 56 = .ok (.if_icmp .ge 27, 3) := by decide +kernel
theorem dX4_reads_59 : decode cX4_reads 59 = .ok (.bipush 10, 2) := by decide +kernel
theorem dX4_reads_61 : decode cX4_reads 61 = .ok (.iload 4, 2) := by decide +kernel
theorem dX4_reads_63 : decode cX4_reads 63 = .ok (.imul, 1) := by decide +kernel
theorem dX4_reads_64 : decode cX4_reads 64 = .ok (.aload_n 0, 1) := by decide +kernel
theorem dX4_reads_65 : decode cX4_reads 65 = .ok (.getfield 60, 3) := by decide +kernel
theorem dX4_reads_68 : decode cX4_reads 68 = .ok (.iload 5, 2) := by decide +kernel
theorem dX4_reads_70 : decode cX4_reads 70 = .ok (.iaload, 1) := by decide +kernel
theorem dX4_reads_71 : decode cX4_reads 71 = .ok (.iadd, 1) := by decide +kernel
theorem dX4_reads_72 : decode cX4_reads 72 = .ok (.bipush 48, 2) := by decide +kernel
theorem dX4_reads_74 : decode cX4_reads 74 = .ok (.isub, 1) := by decide +kernel
theorem dX4_reads_75 : decode cX4_reads 75 = .ok (.istore 4, 2) := by decide +kernel
theorem dX4_reads_77 : decode cX4_reads 77 = .ok (.iinc 5 1, 3) := by decide +kernel
theorem dX4_reads_80 : decode cX4_reads 80 = .ok (.goto (-30), 3) := by decide +kernel
theorem dX4_reads_83 : decode cX4_reads 83 = .ok (.iload 4, 2) := by decide +kernel
theorem dX4_reads_85 : decode cX4_reads 85 = .ok (.i2l, 1) := by decide +kernel
theorem dX4_reads_86 : decode cX4_reads 86 = .ok (.iload_n 2, 1) := by decide +kernel
theorem dX4_reads_87 : decode cX4_reads 87 = .ok (.i2l, 1) := by decide +kernel
theorem dX4_reads_88 : decode cX4_reads 88 = .ok (.iload_n 3, 1) := by decide +kernel
theorem dX4_reads_89 : decode cX4_reads 89 = .ok (.i2l, 1) := by decide +kernel
theorem dX4_reads_90 : decode cX4_reads 90 = .ok (.invokestatic 71, 3) := by decide +kernel
theorem dX4_reads_93 : decode cX4_reads 93 = .ok (.ifCond .ne 5, 3) := by decide +kernel
theorem dX4_reads_96 : decode cX4_reads 96 = .ok (.iconst 0, 1) := by decide +kernel
theorem dX4_reads_97 : decode cX4_reads 97 = .ok (.ireturn, 1) := by decide +kernel
theorem dX4_reads_98 : decode cX4_reads 98 = .ok (.aload_n 0, 1) := by decide +kernel
theorem dX4_reads_99 : decode cX4_reads 99 = .ok (.getfield 63, 3) := by decide +kernel
theorem dX4_reads_102 : decode cX4_reads 102 = .ok (.iload_n 1, 1) := by decide +kernel
theorem dX4_reads_103 : decode cX4_reads 103 = .ok (.iload 4, 2) := by decide +kernel
theorem dX4_reads_105 : decode cX4_reads 105 = .ok (.iastore, 1) := by decide +kernel
theorem dX4_reads_106 : decode cX4_reads 106 = .ok (.aload_n 0, 1) := by decide +kernel
theorem dX4_reads_107 : decode cX4_reads 107 = .ok (.invokevirtual 125, 3) := by decide +kernel
theorem dX4_reads_110 : decode cX4_reads 110 = .ok (.iconst 1, 1) := by decide +kernel
theorem dX4_reads_111 : decode cX4_reads 111 = .ok (.ireturn, 1) := by decide +kernel
theorem dX4_readsRest_0 : decode cX4_readsRest 0 = .ok (.iload_n 1, 1) := by decide +kernel
theorem dX4_readsRest_1 : decode cX4_readsRest 1 = .ok (.tableswitch 145 0 5 #[39, 41, 70, 145, 79, 106], 39) := by decide +kernel
theorem dX4_readsRest_40 : decode cX4_readsRest 40 = .ok (.iconst 1, 1) := by decide +kernel
theorem dX4_readsRest_41 : decode cX4_readsRest 41 = .ok (.ireturn, 1) := by decide +kernel
theorem dX4_readsRest_42 : decode cX4_readsRest 42 = .ok (.aload_n 0, 1) := by decide +kernel
theorem dX4_readsRest_43 : decode cX4_readsRest 43 = .ok (.iconst 0, 1) := by decide +kernel
theorem dX4_readsRest_44 : decode cX4_readsRest 44 = .ok (.iconst 0, 1) := by decide +kernel
theorem dX4_readsRest_45 : decode cX4_readsRest 45 = .ok (.bipush 7, 2) := by decide +kernel
theorem dX4_readsRest_47 : decode cX4_readsRest 47 = .ok (.invokevirtual 128, 3) := by decide +kernel
theorem dX4_readsRest_50 : decode cX4_readsRest 50 = .ok (.ifCond .eq 19, 3) := by decide +kernel
theorem dX4_readsRest_53 : decode cX4_readsRest 53 = .ok (.aload_n 0, 1) := by decide +kernel
theorem dX4_readsRest_54 : decode cX4_readsRest 54 = .ok (.iconst 1, 1) := by decide +kernel
theorem dX4_readsRest_55 : decode cX4_readsRest 55 = .ok (.iconst 0, 1) := by decide +kernel
theorem dX4_readsRest_56 : decode cX4_readsRest 56 = .ok (.sipush 9999, 3) := by decide +kernel
theorem dX4_readsRest_59 : decode cX4_readsRest 59 = .ok (.invokevirtual 128, 3) := by decide +kernel
theorem dX4_readsRest_62 : decode cX4_readsRest 62 = .ok (.ifCond .eq 7, 3) := by decide +kernel
theorem dX4_readsRest_65 : decode cX4_readsRest 65 = .ok (.iconst 1, 1) := by decide +kernel
theorem dX4_readsRest_66 : decode cX4_readsRest 66 = .ok (.goto 4, 3) := by decide +kernel
theorem dX4_readsRest_69 : decode cX4_readsRest 69 = .ok (.iconst 0, 1) := by decide +kernel
theorem dX4_readsRest_70 : decode cX4_readsRest 70 = .ok (.ireturn, 1) := by decide +kernel
theorem dX4_readsRest_71 : decode cX4_readsRest 71 = .ok (.aload_n 0, 1) := by decide +kernel
theorem dX4_readsRest_72 : decode cX4_readsRest 72 = .ok (.iconst 0, 1) := by decide +kernel
theorem dX4_readsRest_73 : decode cX4_readsRest 73 = .ok (.iconst 1, 1) := by decide +kernel
theorem dX4_readsRest_74 : decode cX4_readsRest 74 = .ok (.bipush 9, 2) := by decide +kernel
theorem dX4_readsRest_76 : decode cX4_readsRest 76 = .ok (.invokevirtual 128, 3) := by decide +kernel
theorem dX4_readsRest_79 : decode cX4_readsRest 79 = .ok (.ireturn, 1) := by decide +kernel
theorem dX4_readsRest_80 : decode cX4_readsRest 80 = .ok (.aload_n 0, 1) := by decide +kernel
theorem dX4_readsRest_81 : decode cX4_readsRest 81 = .ok (.iconst 0, 1) := by decide +kernel
theorem dX4_readsRest_82 : decode cX4_readsRest 82 = .ok (.iconst 0, 1) := by decide +kernel
theorem dX4_readsRest_83 : decode cX4_readsRest 83 = .ok (.iconst 5, 1) := by decide +kernel
theorem dX4_readsRest_84 : decode cX4_readsRest 84 = .ok (.invokevirtual 128, 3) := by decide +kernel
theorem dX4_readsRest_87 : decode cX4_readsRest 87 = .ok (.ifCond .eq 18, 3) := by decide +kernel
theorem dX4_readsRest_90 : decode cX4_readsRest 90 = .ok (.aload_n 0, 1) := by decide +kernel
theorem dX4_readsRest_91 : decode cX4_readsRest 91 = .ok (.iconst 1, 1) := by decide +kernel
theorem dX4_readsRest_92 : decode cX4_readsRest 92 = .ok (.iconst 0, 1) := by decide +kernel
theorem dX4_readsRest_93 : decode cX4_readsRest 93 = .ok (.bipush 7, 2) := by decide +kernel
theorem dX4_readsRest_95 : decode cX4_readsRest 95 = .ok (.invokevirtual 128, 3) := by decide +kernel
theorem dX4_readsRest_98 : decode cX4_readsRest 98 = .ok (.ifCond .eq 7, 3) := by decide +kernel
theorem dX4_readsRest_101 : decode cX4_readsRest 101 = .ok (.iconst 1, 1) := by decide +kernel
theorem dX4_readsRest_102 : decode cX4_readsRest 102 = .ok (.goto 4, 3) := by decide +kernel
theorem dX4_readsRest_105 : decode cX4_readsRest 105 = .ok (.iconst 0, 1) := by decide +kernel
theorem dX4_readsRest_106 : decode cX4_readsRest 106 = .ok (.ireturn, 1) := by decide +kernel
theorem dX4_readsRest_107 : decode cX4_readsRest 107 = .ok (.aload_n 0, 1) := by decide +kernel
theorem dX4_readsRest_108 : decode cX4_readsRest 108 = .ok (.iconst 0, 1) := by decide +kernel
theorem dX4_readsRest_109 : decode cX4_readsRest 109 = .ok (.iconst 0, 1) := by decide +kernel
theorem dX4_readsRest_110 : decode cX4_readsRest 110 = .ok (.iconst 5, 1) := by decide +kernel
theorem dX4_readsRest_111 : decode cX4_readsRest 111 = .ok (.invokevirtual 128, 3) := by decide +kernel
theorem dX4_readsRest_114 : decode cX4_readsRest 114 = .ok (.ifCond .eq 30, 3) := by decide +kernel
theorem dX4_readsRest_117 : decode cX4_readsRest 117 = .ok (.aload_n 0, 1) := by decide +kernel
theorem dX4_readsRest_118 : decode cX4_readsRest 118 = .ok (.iconst 1, 1) := by decide +kernel
theorem dX4_readsRest_119 : decode cX4_readsRest 119 = .ok (.iconst 0, 1) := by decide +kernel
theorem dX4_readsRest_120 : decode cX4_readsRest 120 = .ok (.bipush 7, 2) := by decide +kernel
theorem dX4_readsRest_122 : decode cX4_readsRest 122 = .ok (.invokevirtual 128, 3) := by decide +kernel
theorem dX4_readsRest_125 : decode cX4_readsRest 125 = .ok (.ifCond .eq 19, 3) := by decide +kernel
theorem dX4_readsRest_128 : decode cX4_readsRest 128 = .ok (.aload_n 0, 1) := by decide +kernel
theorem dX4_readsRest_129 : decode cX4_readsRest 129 = .ok (.iconst 2, 1) := by decide +kernel
theorem dX4_readsRest_130 : decode cX4_readsRest 130 = .ok (.iconst 0, 1) := by decide +kernel
theorem dX4_readsRest_131 : decode cX4_readsRest 131 = .ok (.sipush 9999, 3) := by decide +kernel
theorem dX4_readsRest_134 : decode cX4_readsRest 134 = .ok (.invokevirtual 128, 3) := by decide +kernel
theorem dX4_readsRest_137 : decode cX4_readsRest 137 = .ok (.ifCond .eq 7, 3) := by decide +kernel
theorem dX4_readsRest_140 : decode cX4_readsRest 140 = .ok (.iconst 1, 1) := by decide +kernel
theorem dX4_readsRest_141 : decode cX4_readsRest 141 = .ok (.goto 4, 3) := by decide +kernel
theorem dX4_readsRest_144 : decode cX4_readsRest 144 = .ok (.iconst 0, 1) := by decide +kernel
theorem dX4_readsRest_145 : decode cX4_readsRest 145 = .ok (.ireturn, 1) := by decide +kernel
theorem dX4_readsRest_146 : decode cX4_readsRest 146 = .ok (.aload_n 0, 1) := by decide +kernel
theorem dX4_readsRest_147 : decode cX4_readsRest 147 = .ok (.iconst 0, 1) := by decide +kernel
theorem dX4_readsRest_148 : decode cX4_readsRest 148 = .ok (.iconst 0, 1) := by decide +kernel
theorem dX4_readsRest_149 : decode cX4_readsRest 149 = .ok (.iconst 5, 1) := by decide +kernel
theorem dX4_readsRest_150 : decode cX4_readsRest 150 = .ok (.invokevirtual 128, 3) := by decide +kernel
theorem dX4_readsRest_153 : decode cX4_readsRest 153 = .ok (.ireturn, 1) := by decide +kernel
theorem dX4_does_0 : decode cX4_does 0 = .ok (.iload_n 1, 1) := by decide +kernel
theorem dX4_does_1 : decode cX4_does 1 = .ok (.tableswitch 140 0 5 #[39, 46, 66, 80, 94, 114], 39) := by decide +kernel
theorem dX4_does_40 : decode cX4_does 40 = .ok (.aload_n 0, 1) := by decide +kernel
theorem dX4_does_41 : decode cX4_does 41 = .ok (.invokevirtual 131, 3) := by decide +kernel
theorem dX4_does_44 : decode cX4_does 44 = .ok (.goto 108, 3) := by decide +kernel
theorem dX4_does_47 : decode cX4_does 47 = .ok (.aload_n 0, 1) := by decide +kernel
theorem dX4_does_48 : decode cX4_does 48 = .ok (.aload_n 0, 1) := by decide +kernel
theorem dX4_does_49 : decode cX4_does 49 = .ok (.getfield 63, 3) := by decide +kernel
theorem dX4_does_52 : decode cX4_does 52 = .ok (.iconst 0, 1) := by decide +kernel
theorem dX4_does_53 : decode cX4_does 53 = .ok (.iaload, 1) := by decide +kernel
theorem dX4_does_54 : decode cX4_does 54 = .ok (.aload_n 0, 1) := by decide +kernel
theorem dX4_does_55 : decode cX4_does 55 = .ok (.getfield 63, 3) := by decide +kernel
theorem dX4_does_58 : decode cX4_does 58 = .ok (.iconst 1, 1) := by decide +kernel
theorem dX4_does_59 : decode cX4_does 59 = .ok (.iaload, 1) := by decide +kernel
theorem dX4_does_60 : decode cX4_does 60 = .ok (.invokevirtual 134, 3) := by decide +kernel
theorem dX4_does_63 : decode cX4_does 63 = .ok (.pop, 1) := by decide +kernel
theorem dX4_does_64 : decode cX4_does 64 = .ok (.goto 88, 3) := by decide +kernel
theorem dX4_does_67 : decode cX4_does 67 = .ok (.aload_n 0, 1) := by decide +kernel
theorem dX4_does_68 : decode cX4_does 68 = .ok (.aload_n 0, 1) := by decide +kernel
theorem dX4_does_69 : decode cX4_does 69 = .ok (.getfield 63, 3) := by decide +kernel
theorem dX4_does_72 : decode cX4_does 72 = .ok (.iconst 0, 1) := by decide +kernel
theorem dX4_does_73 : decode cX4_does 73 = .ok (.iaload, 1) := by decide +kernel
theorem dX4_does_74 : decode cX4_does 74 = .ok (.invokevirtual 138, 3) := by decide +kernel
theorem dX4_does_77 : decode cX4_does 77 = .ok (.pop, 1) := by decide +kernel
theorem dX4_does_78 : decode cX4_does 78 = .ok (.goto 74, 3) := by decide +kernel
theorem dX4_does_81 : decode cX4_does 81 = .ok (.aload_n 0, 1) := by decide +kernel
theorem dX4_does_82 : decode cX4_does 82 = .ok (.aload_n 0, 1) := by decide +kernel
theorem dX4_does_83 : decode cX4_does 83 = .ok (.getfield 63, 3) := by decide +kernel
theorem dX4_does_86 : decode cX4_does 86 = .ok (.iconst 0, 1) := by decide +kernel
theorem dX4_does_87 : decode cX4_does 87 = .ok (.iaload, 1) := by decide +kernel
theorem dX4_does_88 : decode cX4_does 88 = .ok (.invokevirtual 141, 3) := by decide +kernel
theorem dX4_does_91 : decode cX4_does 91 = .ok (.pop, 1) := by decide +kernel
theorem dX4_does_92 : decode cX4_does 92 = .ok (.goto 60, 3) := by decide +kernel
theorem dX4_does_95 : decode cX4_does 95 = .ok (.aload_n 0, 1) := by decide +kernel
theorem dX4_does_96 : decode cX4_does 96 = .ok (.aload_n 0, 1) := by decide +kernel
theorem dX4_does_97 : decode cX4_does 97 = .ok (.getfield 63, 3) := by decide +kernel
theorem dX4_does_100 : decode cX4_does 100 = .ok (.iconst 0, 1) := by decide +kernel
theorem dX4_does_101 : decode cX4_does 101 = .ok (.iaload, 1) := by decide +kernel
theorem dX4_does_102 : decode cX4_does 102 = .ok (.aload_n 0, 1) := by decide +kernel
theorem dX4_does_103 : decode cX4_does 103 = .ok (.getfield 63, 3) := by decide +kernel
theorem dX4_does_106 : decode cX4_does 106 = .ok (.iconst 1, 1) := by decide +kernel
theorem dX4_does_107 : decode cX4_does 107 = .ok (.iaload, 1) := by decide +kernel
theorem dX4_does_108 : decode cX4_does 108 = .ok (.invokevirtual 144, 3) := by decide +kernel
theorem dX4_does_111 : decode cX4_does 111 = .ok (.pop, 1) := by decide +kernel
theorem dX4_does_112 : decode cX4_does 112 = .ok (.goto 40, 3) := by decide +kernel
theorem dX4_does_115 : decode cX4_does 115 = .ok (.aload_n 0, 1) := by decide +kernel
theorem dX4_does_116 : decode cX4_does 116 = .ok (.aload_n 0, 1) := by decide +kernel
theorem dX4_does_117 : decode cX4_does 117 = .ok (.getfield 63, 3) := by decide +kernel
theorem dX4_does_120 : decode cX4_does 120 = .ok (.iconst 0, 1) := by decide +kernel
theorem dX4_does_121 : decode cX4_does 121 = .ok (.iaload, 1) := by decide +kernel
theorem dX4_does_122 : decode cX4_does 122 = .ok (.aload_n 0, 1) := by decide +kernel
theorem dX4_does_123 : decode cX4_does 123 = .ok (.getfield 63, 3) := by decide +kernel
theorem dX4_does_126 : decode cX4_does 126 = .ok (.iconst 1, 1) := by decide +kernel
theorem dX4_does_127 : decode cX4_does 127 = .ok (.iaload, 1) := by decide +kernel
theorem dX4_does_128 : decode cX4_does 128 = .ok (.aload_n 0, 1) := by decide +kernel
theorem dX4_does_129 : decode cX4_does 129 = .ok (.getfield 63, 3) := by decide +kernel
theorem dX4_does_132 : decode cX4_does 132 = .ok (.iconst 2, 1) := by decide +kernel
theorem dX4_does_133 : decode cX4_does 133 = .ok (.iaload, 1) := by decide +kernel
theorem dX4_does_134 : decode cX4_does 134 = .ok (.invokevirtual 147, 3) := by decide +kernel
theorem dX4_does_137 : decode cX4_does 137 = .ok (.pop, 1) := by decide +kernel
theorem dX4_does_138 : decode cX4_does 138 = .ok (.goto 14, 3) := by decide +kernel
theorem dX4_does_141 : decode cX4_does 141 = .ok (.aload_n 0, 1) := by decide +kernel
theorem dX4_does_142 : decode cX4_does 142 = .ok (.aload_n 0, 1) := by decide +kernel
theorem dX4_does_143 : decode cX4_does 143 = .ok (.getfield 63, 3) := by decide +kernel
theorem dX4_does_146 : decode cX4_does 146 = .ok (.iconst 0, 1) := by decide +kernel
theorem dX4_does_147 : decode cX4_does 147 = .ok (.iaload, 1) := by decide +kernel
theorem dX4_does_148 : decode cX4_does 148 = .ok (.invokevirtual 151, 3) := by decide +kernel
theorem dX4_does_151 : decode cX4_does 151 = .ok (.pop, 1) := by decide +kernel
theorem dX4_does_152 : decode cX4_does 152 = .ok (.return_, 1) := by decide +kernel
theorem dX4_readsClause_0 : decode cX4_readsClause 0 = .ok (.aload_n 0, 1) := by decide +kernel
theorem dX4_readsClause_1 : decode cX4_readsClause 1 = .ok (.invokevirtual 154, 3) := by decide +kernel
theorem dX4_readsClause_4 : decode cX4_readsClause 4 = .ok (.istore_n 1, 1) := by decide +kernel
theorem dX4_readsClause_5 : decode cX4_readsClause 5 = .ok (.iload_n 1, 1) := by decide +kernel
theorem dX4_readsClause_6 : decode cX4_readsClause 6 = .ok (.iconst (-1), 1) := by decide +kernel
theorem dX4_readsClause_7 : decode cX4_readsClause 7 = .ok (.if_icmp .ne 5, 3) := by decide +kernel
theorem dX4_readsClause_10 : decode cX4_readsClause 10 = .ok (.iconst 0, 1) := by decide +kernel
theorem dX4_readsClause_11 : decode cX4_readsClause 11 = .ok (.ireturn, 1) := by decide +kernel
theorem dX4_readsClause_12 : decode cX4_readsClause 12 = .ok (.aload_n 0, 1) := by decide +kernel
theorem dX4_readsClause_13 : decode cX4_readsClause 13 = .ok (.invokevirtual 125, 3) := by decide +kernel
theorem dX4_readsClause_16 : decode cX4_readsClause 16 = .ok (.aload_n 0, 1) := by decide +kernel
theorem dX4_readsClause_17 : decode cX4_readsClause 17 = .ok (.iload_n 1, 1) := by decide +kernel
theorem dX4_readsClause_18 : decode cX4_readsClause 18 = .ok (.invokevirtual 158, 3) := by decide +kernel
theorem dX4_readsClause_21 : decode cX4_readsClause 21 = .ok (.ifCond .ne 5, 3) := by decide +kernel
theorem dX4_readsClause_24 : decode cX4_readsClause 24 = .ok (.iconst 0, 1) := by decide +kernel
theorem dX4_readsClause_25 : decode cX4_readsClause 25 = .ok (.ireturn, 1) := by decide +kernel
theorem dX4_readsClause_26 : decode cX4_readsClause 26 = .ok (.aload_n 0, 1) := by decide +kernel
theorem dX4_readsClause_27 : decode cX4_readsClause 27 = .ok (.getfield 161, 3) := by decide +kernel
theorem dX4_readsClause_30 : decode cX4_readsClause 30 = .ok (.ifCond .eq 8, 3) := by decide +kernel
theorem dX4_readsClause_33 : decode cX4_readsClause 33 = .ok (.aload_n 0, 1) := by decide +kernel
theorem dX4_readsClause_34 : decode cX4_readsClause 34 = .ok (.iload_n 1, 1) := by decide +kernel
theorem dX4_readsClause_35 : decode cX4_readsClause 35 = .ok (.invokevirtual 165, 3) := by decide +kernel
theorem dX4_readsClause_38 : decode cX4_readsClause 38 = .ok (.iconst 1, 1) := by decide +kernel
theorem dX4_readsClause_39 : decode cX4_readsClause 39 = .ok (.ireturn, 1) := by decide +kernel
theorem dX4_readsAll_0 : decode cX4_readsAll 0 = .ok (.aload_n 0, 1) := by decide +kernel
theorem dX4_readsAll_1 : decode cX4_readsAll 1 = .ok (.iload_n 1, 1) := by decide +kernel
theorem dX4_readsAll_2 : decode cX4_readsAll 2 = .ok (.putfield 161, 3) := by decide +kernel
theorem dX4_readsAll_5 : decode cX4_readsAll 5 = .ok (.aload_n 0, 1) := by decide +kernel
theorem dX4_readsAll_6 : decode cX4_readsAll 6 = .ok (.iconst 0, 1) := by decide +kernel
theorem dX4_readsAll_7 : decode cX4_readsAll 7 = .ok (.putfield 112, 3) := by decide +kernel
theorem dX4_readsAll_10 : decode cX4_readsAll 10 = .ok (.aload_n 0, 1) := by decide +kernel
theorem dX4_readsAll_11 : decode cX4_readsAll 11 = .ok (.iconst 1, 1) := by decide +kernel
theorem dX4_readsAll_12 : decode cX4_readsAll 12 = .ok (.putfield 169, 3) := by decide +kernel
theorem dX4_readsAll_15 : decode cX4_readsAll 15 = .ok (.aload_n 0, 1) := by decide +kernel
theorem dX4_readsAll_16 : decode cX4_readsAll 16 = .ok (.invokevirtual 125, 3) := by decide +kernel
theorem dX4_readsAll_19 : decode cX4_readsAll 19 = .ok (.aload_n 0, 1) := by decide +kernel
theorem dX4_readsAll_20 : decode cX4_readsAll 20 = .ok (.invokevirtual 172, 3) := by decide +kernel
theorem dX4_readsAll_23 : decode cX4_readsAll 23 = .ok (.istore_n 2, 1) := by decide +kernel
theorem dX4_readsAll_24 : decode cX4_readsAll 24 = .ok (.iload_n 2, 1) := by decide +kernel
theorem dX4_readsAll_25 : decode cX4_readsAll 25 = .ok (.ifCond .eq 69, 3) := by decide +kernel
theorem dX4_readsAll_28 : decode cX4_readsAll 28 = .ok (.aload_n 0, 1) := by decide +kernel
theorem dX4_readsAll_29 : decode cX4_readsAll 29 = .ok (.getfield 115, 3) := by decide +kernel
theorem dX4_readsAll_32 : decode cX4_readsAll 32 = .ok (.aload_n 0, 1) := by decide +kernel
theorem dX4_readsAll_33 : decode cX4_readsAll 33 = .ok (.getfield 101, 3) := by decide +kernel
theorem dX4_readsAll_36 : decode cX4_readsAll 36 = .ok (.if_icmp .ge 58, 3) := by decide +kernel
theorem dX4_readsAll_39 : decode cX4_readsAll 39 = .ok (.aload_n 0, 1) := by decide +kernel
theorem dX4_readsAll_40 : decode cX4_readsAll 40 = .ok (.getfield 169, 3) := by decide +kernel
theorem dX4_readsAll_43 : decode cX4_readsAll 43 = .ok (.bipush 24, 2) := by decide +kernel
theorem dX4_readsAll_45 : decode cX4_readsAll 45 = .ok (.if_icmp .ge 21, 3) := by decide +kernel
theorem dX4_readsAll_48 : decode cX4_readsAll 48 = .ok (.aload_n 0, 1) := by decide +kernel
theorem dX4_readsAll_49 : decode cX4_readsAll 49 = .ok (.getfield 60, 3) := by decide +kernel
theorem dX4_readsAll_52 : decode cX4_readsAll 52 = .ok (.aload_n 0, 1) := by decide +kernel
theorem dX4_readsAll_53 : decode cX4_readsAll 53 = .ok (.getfield 115, 3) := by decide +kernel
theorem dX4_readsAll_56 : decode cX4_readsAll 56 = .ok (.iaload, 1) := by decide +kernel
theorem dX4_readsAll_57 : decode cX4_readsAll 57 = .ok (.bipush 59, 2) := by decide +kernel
theorem dX4_readsAll_59 : decode cX4_readsAll 59 = .ok (.if_icmp .ne 7, 3) := by decide +kernel
theorem dX4_readsAll_62 : decode cX4_readsAll 62 = .ok (.iconst 1, 1) := by decide +kernel
theorem dX4_readsAll_63 : decode cX4_readsAll 63 = .ok (.goto 4, 3) := by decide +kernel
theorem dX4_readsAll_66 : decode cX4_readsAll 66 = .ok (.iconst 0, 1) := by decide +kernel
theorem dX4_readsAll_67 : decode cX4_readsAll 67 = .ok (.istore_n 2, 1) := by decide +kernel
theorem dX4_readsAll_68 : decode cX4_readsAll 68 = .ok (.iload_n 2, 1) := by decide +kernel
theorem dX4_readsAll_69 : decode cX4_readsAll 69 = .ok (.ifCond .eq (-45), 3) := by decide +kernel
theorem dX4_readsAll_72 : decode cX4_readsAll 72 = .ok (.aload_n 0, 1) := by decide +kernel
theorem dX4_readsAll_73 : decode cX4_readsAll 73 = .ok (.invokevirtual 125, 3) := by decide +kernel
theorem dX4_readsAll_76 : decode cX4_readsAll 76 = .ok (.aload_n 0, 1) := by decide +kernel
theorem dX4_readsAll_77 : decode cX4_readsAll 77 = .ok (.invokevirtual 172, 3) := by decide +kernel
theorem dX4_readsAll_80 : decode cX4_readsAll 80 = .ok (.istore_n 2, 1) := by decide +kernel
theorem dX4_readsAll_81 : decode cX4_readsAll 81 = .ok (.aload_n 0, 1) := by decide +kernel
theorem dX4_readsAll_82 : decode cX4_readsAll 82 = .ok (.dup, 1) := by decide +kernel
theorem dX4_readsAll_83 : decode cX4_readsAll 83 = .ok (.getfield 169, 3) := by decide +kernel
theorem dX4_readsAll_86 : decode cX4_readsAll 86 = .ok (.iconst 1, 1) := by decide +kernel
theorem dX4_readsAll_87 : decode cX4_readsAll 87 = .ok (.iadd, 1) := by decide +kernel
theorem dX4_readsAll_88 : decode cX4_readsAll 88 = .ok (.putfield 169, 3) := by decide +kernel
theorem dX4_readsAll_91 : decode cX4_readsAll 91 = .ok (.goto (-67), 3) := by decide +kernel
theorem dX4_readsAll_94 : decode cX4_readsAll 94 = .ok (.iload_n 2, 1) := by decide +kernel
theorem dX4_readsAll_95 : decode cX4_readsAll 95 = .ok (.ireturn, 1) := by decide +kernel
theorem dX4_fault_0 : decode cX4_fault 0 = .ok (.aload_n 0, 1) := by decide +kernel
theorem dX4_fault_1 : decode cX4_fault 1 = .ok (.iconst 0, 1) := by decide +kernel
theorem dX4_fault_2 : decode cX4_fault 2 = .ok (.invokevirtual 176, 3) := by decide +kernel
theorem dX4_fault_5 : decode cX4_fault 5 = .ok (.ifCond .eq 7, 3) := by decide +kernel
theorem dX4_fault_8 : decode cX4_fault 8 = .ok (.iconst (-1), 1) := by decide +kernel
theorem dX4_fault_9 : decode cX4_fault 9 = .ok (.goto 7, 3) := by decide +kernel
theorem dX4_fault_12 : decode cX4_fault 12 = .ok (.aload_n 0, 1) := by decide +kernel
theorem dX4_fault_13 : decode cX4_fault 13 = .ok (.getfield 115, 3) := by decide +kernel
theorem dX4_fault_16 : decode cX4_fault 16 = .ok (.ireturn, 1) := by decide +kernel
theorem dX4_tell_0 : decode cX4_tell 0 = .ok (.aload_n 0, 1) := by decide +kernel
theorem dX4_tell_1 : decode cX4_tell 1 = .ok (.iconst 0, 1) := by decide +kernel
theorem dX4_tell_2 : decode cX4_tell 2 = .ok (.invokevirtual 176, 3) := by decide +kernel
theorem dX4_tell_5 : decode cX4_tell 5 = .ok (.ifCond .ne 6, 3) := by decide +kernel
theorem dX4_tell_8 : decode cX4_tell 8 = .ok (.bipush (-4), 2) := by decide +kernel
theorem dX4_tell_10 : decode cX4_tell 10 = .ok (.ireturn, 1) := by decide +kernel
theorem dX4_tell_11 : decode cX4_tell 11 = .ok (.aload_n 0, 1) := by decide +kernel
theorem dX4_tell_12 : decode cX4_tell 12 = .ok (.iconst 1, 1) := by decide +kernel
theorem dX4_tell_13 : decode cX4_tell 13 = .ok (.invokevirtual 176, 3) := by decide +kernel
theorem dX4_tell_16 : decode cX4_tell 16 = .ok (.pop, 1) := by decide +kernel
theorem dX4_tell_17 : decode cX4_tell 17 = .ok (.aload_n 0, 1) := by decide +kernel
theorem dX4_tell_18 : decode cX4_tell 18 = .ok (.iconst 0, 1) := by decide +kernel
theorem dX4_tell_19 : decode cX4_tell 19 = .ok (.putfield 101, 3) := by decide +kernel
theorem dX4_tell_22 : decode cX4_tell 22 = .ok (.aload_n 0, 1) := by decide +kernel
theorem dX4_tell_23 : decode cX4_tell 23 = .ok (.getfield 169, 3) := by decide +kernel
theorem dX4_tell_26 : decode cX4_tell 26 = .ok (.ireturn, 1) := by decide +kernel
theorem dX4_item_0 : decode cX4_item 0 = .ok (.iload_n 1, 1) := by decide +kernel
theorem dX4_item_1 : decode cX4_item 1 = .ok (.invokestatic 180, 3) := by decide +kernel
theorem dX4_item_4 : decode cX4_item 4 = .ok (.ifCond .ne 6, 3) := by decide +kernel
theorem dX4_item_7 : decode cX4_item 7 = .ok (.bipush (-2), 2) := by decide +kernel
theorem dX4_item_9 : decode cX4_item 9 = .ok (.ireturn, 1) := by decide +kernel
theorem dX4_item_10 : decode cX4_item 10 = .ok (.iload_n 2, 1) := by decide +kernel
theorem dX4_item_11 : decode cX4_item 11 = .ok (.ifCond .ne 12, 3) := by decide +kernel
theorem dX4_item_14 : decode cX4_item 14 = .ok (.aload_n 0, 1) := by decide +kernel
theorem dX4_item_15 : decode cX4_item 15 = .ok (.getfield 7, 3) := by decide +kernel
theorem dX4_item_18 : decode cX4_item 18 = .ok (.iload_n 1, 1) := by decide +kernel
theorem dX4_item_19 : decode cX4_item 19 = .ok (.iaload, 1) := by decide +kernel
theorem dX4_item_20 : decode cX4_item 20 = .ok (.goto 19, 3) := by decide +kernel
theorem dX4_item_23 : decode cX4_item 23 = .ok (.iload_n 2, 1) := by decide +kernel
theorem dX4_item_24 : decode cX4_item 24 = .ok (.iconst 1, 1) := by decide +kernel
theorem dX4_item_25 : decode cX4_item 25 = .ok (.if_icmp .ne 12, 3) := by decide +kernel
theorem dX4_item_28 : decode cX4_item 28 = .ok (.aload_n 0, 1) := by decide +kernel
theorem dX4_item_29 : decode cX4_item 29 = .ok (.getfield 13, 3) := by decide +kernel
theorem dX4_item_32 : decode cX4_item 32 = .ok (.iload_n 1, 1) := by decide +kernel
theorem dX4_item_33 : decode cX4_item 33 = .ok (.iaload, 1) := by decide +kernel
theorem dX4_item_34 : decode cX4_item 34 = .ok (.goto 5, 3) := by decide +kernel
theorem dX4_item_37 : decode cX4_item 37 = .ok (.bipush (-3), 2) := by decide +kernel
theorem dX4_item_39 : decode cX4_item 39 = .ok (.ireturn, 1) := by decide +kernel
theorem dX4_logs_0 : decode cX4_logs 0 = .ok (.bipush 22, 2) := by decide +kernel
theorem dX4_logs_2 : decode cX4_logs 2 = .ok (.aload_n 0, 1) := by decide +kernel
theorem dX4_logs_3 : decode cX4_logs 3 = .ok (.getfield 81, 3) := by decide +kernel
theorem dX4_logs_6 : decode cX4_logs 6 = .ok (.imul, 1) := by decide +kernel
theorem dX4_logs_7 : decode cX4_logs 7 = .ok (.istore_n 3, 1) := by decide +kernel
theorem dX4_logs_8 : decode cX4_logs 8 = .ok (.aload_n 0, 1) := by decide +kernel
theorem dX4_logs_9 : decode cX4_logs 9 = .ok (.dup, 1) := by decide +kernel
theorem dX4_logs_10 : decode cX4_logs 10 = .ok (.getfield 81, 3) := by decide +kernel
theorem dX4_logs_13 : decode cX4_logs 13 = .ok (.iconst 1, 1) := by decide +kernel
theorem dX4_logs_14 : decode cX4_logs 14 = .ok (.iadd, 1) := by decide +kernel
theorem dX4_logs_15 : decode cX4_logs 15 = .ok (.putfield 81, 3) := by decide +kernel
theorem dX4_logs_18 : decode cX4_logs 18 = .ok (.aload_n 0, 1) := by decide +kernel
theorem dX4_logs_19 : decode cX4_logs 19 = .ok (.getfield 16, 3) := by decide +kernel
theorem dX4_logs_22 : decode cX4_logs 22 = .ok (.iload_n 3, 1) := by decide +kernel
theorem dX4_logs_23 : decode cX4_logs 23 = .ok (.iload_n 1, 1) := by decide +kernel
theorem dX4_logs_24 : decode cX4_logs 24 = .ok (.iastore, 1) := by decide +kernel
theorem dX4_logs_25 : decode cX4_logs 25 = .ok (.aload_n 0, 1) := by decide +kernel
theorem dX4_logs_26 : decode cX4_logs 26 = .ok (.getfield 16, 3) := by decide +kernel
theorem dX4_logs_29 : decode cX4_logs 29 = .ok (.iload_n 3, 1) := by decide +kernel
theorem dX4_logs_30 : decode cX4_logs 30 = .ok (.iconst 1, 1) := by decide +kernel
theorem dX4_logs_31 : decode cX4_logs 31 = .ok (.iadd, 1) := by decide +kernel
theorem dX4_logs_32 : decode cX4_logs 32 = .ok (.iload_n 1, 1) := by decide +kernel
theorem dX4_logs_33 : decode cX4_logs 33 = .ok (.iconst (-1), 1) := by decide +kernel
theorem dX4_logs_34 : decode cX4_logs 34 = .ok (.if_icmp .ne 7, 3) := by decide +kernel
theorem dX4_logs_37 : decode cX4_logs 37 = .ok (.iconst 0, 1) := by decide +kernel
theorem dX4_logs_38 : decode cX4_logs 38 = .ok (.goto 9, 3) := by decide +kernel
theorem dX4_logs_41 : decode cX4_logs 41 = .ok (.aload_n 0, 1) := by decide +kernel
theorem dX4_logs_42 : decode cX4_logs 42 = .ok (.getfield 25, 3) := by decide +kernel
theorem dX4_logs_45 : decode cX4_logs 45 = .ok (.iload_n 1, 1) := by decide +kernel
theorem dX4_logs_46 : decode cX4_logs 46 = .ok (.iaload, 1) := by decide +kernel
theorem dX4_logs_47 : decode cX4_logs 47 = .ok (.iastore, 1) := by decide +kernel
theorem dX4_logs_48 : decode cX4_logs 48 = .ok (.aload_n 0, 1) := by decide +kernel
theorem dX4_logs_49 : decode cX4_logs 49 = .ok (.getfield 16, 3) := by decide +kernel
theorem dX4_logs_52 : decode cX4_logs 52 = .ok (.iload_n 3, 1) := by decide +kernel
theorem dX4_logs_53 : decode cX4_logs 53 = .ok (.iconst 2, 1) := by decide +kernel
theorem dX4_logs_54 : decode cX4_logs 54 = .ok (.iadd, 1) := by decide +kernel
theorem dX4_logs_55 : decode cX4_logs 55 = .ok (.iload_n 1, 1) := by decide +kernel
theorem dX4_logs_56 : decode cX4_logs 56 = .ok (.iconst (-1), 1) := by decide +kernel
theorem dX4_logs_57 : decode cX4_logs 57 = .ok (.if_icmp .ne 7, 3) := by decide +kernel
theorem dX4_logs_60 : decode cX4_logs 60 = .ok (.iconst 0, 1) := by decide +kernel
theorem dX4_logs_61 : decode cX4_logs 61 = .ok (.goto 9, 3) := by decide +kernel
theorem dX4_logs_64 : decode cX4_logs 64 = .ok (.aload_n 0, 1) := by decide +kernel
theorem dX4_logs_65 : decode cX4_logs 65 = .ok (.getfield 28, 3) := by decide +kernel
theorem dX4_logs_68 : decode cX4_logs 68 = .ok (.iload_n 1, 1) := by decide +kernel
theorem dX4_logs_69 : decode cX4_logs 69 = .ok (.iaload, 1) := by decide +kernel
theorem dX4_logs_70 : decode cX4_logs 70 = .ok (.iastore, 1) := by decide +kernel
theorem dX4_logs_71 : decode cX4_logs 71 = .ok (.aload_n 0, 1) := by decide +kernel
theorem dX4_logs_72 : decode cX4_logs 72 = .ok (.getfield 16, 3) := by decide +kernel
theorem dX4_logs_75 : decode cX4_logs 75 = .ok (.iload_n 3, 1) := by decide +kernel
theorem dX4_logs_76 : decode cX4_logs 76 = .ok (.iconst 3, 1) := by decide +kernel
theorem dX4_logs_77 : decode cX4_logs 77 = .ok (.iadd, 1) := by decide +kernel
theorem dX4_logs_78 : decode cX4_logs 78 = .ok (.iload_n 1, 1) := by decide +kernel
theorem dX4_logs_79 : decode cX4_logs 79 = .ok (.iconst (-1), 1) := by decide +kernel
theorem dX4_logs_80 : decode cX4_logs 80 = .ok (.if_icmp .ne 7, 3) := by decide +kernel
theorem dX4_logs_83 : decode cX4_logs 83 = .ok (.iconst 0, 1) := by decide +kernel
theorem dX4_logs_84 : decode cX4_logs 84 = .ok (.goto 9, 3) := by decide +kernel
theorem dX4_logs_87 : decode cX4_logs 87 = .ok (.aload_n 0, 1) := by decide +kernel
theorem dX4_logs_88 : decode cX4_logs 88 = .ok (.getfield 35, 3) := by decide +kernel
theorem dX4_logs_91 : decode cX4_logs 91 = .ok (.iload_n 1, 1) := by decide +kernel
theorem dX4_logs_92 : decode cX4_logs 92 = .ok (.iaload, 1) := by decide +kernel
theorem dX4_logs_93 : decode cX4_logs 93 = .ok (.iastore, 1) := by decide +kernel
theorem dX4_logs_94 : decode cX4_logs 94 = .ok (.aload_n 0, 1) := by decide +kernel
theorem dX4_logs_95 : decode cX4_logs 95 = .ok (.getfield 16, 3) := by decide +kernel
theorem dX4_logs_98 : decode cX4_logs 98 = .ok (.iload_n 3, 1) := by decide +kernel
theorem dX4_logs_99 : decode cX4_logs 99 = .ok (.iconst 4, 1) := by decide +kernel
theorem dX4_logs_100 : decode cX4_logs 100 = .ok (.iadd, 1) := by decide +kernel
theorem dX4_logs_101 : decode cX4_logs 101 = .ok (.iload_n 1, 1) := by decide +kernel
theorem dX4_logs_102 : decode cX4_logs 102 = .ok (.iconst (-1), 1) := by decide +kernel
theorem dX4_logs_103 : decode cX4_logs 103 = .ok (.if_icmp .ne 7, 3) := by decide +kernel
theorem dX4_logs_106 : decode cX4_logs 106 = .ok (.iconst 0, 1) := by decide +kernel
theorem dX4_logs_107 : decode cX4_logs 107 = .ok (.goto 9, 3) := by decide +kernel
theorem dX4_logs_110 : decode cX4_logs 110 = .ok (.aload_n 0, 1) := by decide +kernel
theorem dX4_logs_111 : decode cX4_logs 111 = .ok (.getfield 38, 3) := by decide +kernel
theorem dX4_logs_114 : decode cX4_logs 114 = .ok (.iload_n 1, 1) := by decide +kernel
theorem dX4_logs_115 : decode cX4_logs 115 = .ok (.iaload, 1) := by decide +kernel
theorem dX4_logs_116 : decode cX4_logs 116 = .ok (.iastore, 1) := by decide +kernel
theorem dX4_logs_117 : decode cX4_logs 117 = .ok (.aload_n 0, 1) := by decide +kernel
theorem dX4_logs_118 : decode cX4_logs 118 = .ok (.getfield 16, 3) := by decide +kernel
theorem dX4_logs_121 : decode cX4_logs 121 = .ok (.iload_n 3, 1) := by decide +kernel
theorem dX4_logs_122 : decode cX4_logs 122 = .ok (.iconst 5, 1) := by decide +kernel
theorem dX4_logs_123 : decode cX4_logs 123 = .ok (.iadd, 1) := by decide +kernel
theorem dX4_logs_124 : decode cX4_logs 124 = .ok (.iload_n 2, 1) := by decide +kernel
theorem dX4_logs_125 : decode cX4_logs 125 = .ok (.iastore, 1) := by decide +kernel
theorem dX4_logs_126 : decode cX4_logs 126 = .ok (.iconst 0, 1) := by decide +kernel
theorem dX4_logs_127 : decode cX4_logs 127 = .ok (.istore 4, 2) := by decide +kernel
theorem dX4_logs_129 : decode cX4_logs 129 = .ok (.iload 4, 2) := by decide +kernel
theorem dX4_logs_131 : decode cX4_logs 131 = .ok (.bipush 8, 2) := by decide +kernel
theorem dX4_logs_133 : decode cX4_logs 133 = .ok (.if_icmp .ge 103, 3) := by decide +kernel
theorem dX4_logs_136 : decode cX4_logs 136 = .ok (.aload_n 0, 1) := by decide +kernel
theorem dX4_logs_137 : decode cX4_logs 137 = .ok (.getfield 16, 3) := by decide +kernel
theorem dX4_logs_140 : decode cX4_logs 140 = .ok (.iload_n 3, 1) := by decide +kernel
theorem dX4_logs_141 : decode cX4_logs 141 = .ok (.bipush 6, 2) := by decide +kernel
theorem dX4_logs_143 : decode cX4_logs 143 = .ok (.iadd, 1) := by decide +kernel
theorem dX4_logs_144 : decode cX4_logs 144 = .ok (.iload 4, 2) := by decide +kernel
theorem dX4_logs_146 : decode cX4_logs 146 = .ok (.iadd, 1) := by decide +kernel
theorem dX4_logs_147 : decode cX4_logs 147 = .ok (.iload_n 1, 1) := by decide +kernel
theorem dX4_logs_148 : decode cX4_logs 148 = .ok (.iconst (-1), 1) := by decide +kernel
theorem dX4_logs_149 : decode cX4_logs 149 = .ok (.if_icmp .eq 32, 3) := by decide +kernel
theorem dX4_logs_152 : decode cX4_logs 152 = .ok (.aload_n 0, 1) := by decide +kernel
theorem dX4_logs_153 : decode cX4_logs 153 = .ok (.getfield 35, 3) := by decide +kernel
theorem dX4_logs_156 : decode cX4_logs 156 = .ok (.iload_n 1, 1) := by decide +kernel
theorem dX4_logs_157 : decode cX4_logs 157 = .ok (.iaload, 1) := by decide +kernel
theorem dX4_logs_158 : decode cX4_logs 158 = .ok (.iload 4, 2) := by decide +kernel
theorem dX4_logs_160 : decode cX4_logs 160 = .ok (.invokestatic 183, 3) := by decide +kernel
theorem dX4_logs_163 : decode cX4_logs 163 = .ok (.ifCond .eq 18, 3) := by decide +kernel
theorem dX4_logs_166 : decode cX4_logs 166 = .ok (.aload_n 0, 1) := by decide +kernel
theorem dX4_logs_167 : decode cX4_logs 167 = .ok (.getfield 44, 3) := by decide +kernel
theorem dX4_logs_170 : decode cX4_logs 170 = .ok (.bipush 8, 2) := by decide +kernel
theorem dX4_logs_172 : decode cX4_logs 172 = .ok (.iload_n 1, 1) := by decide +kernel
theorem dX4_logs_173 : decode cX4_logs 173 = .ok (.imul, 1) := by decide +kernel
theorem dX4_logs_174 : decode cX4_logs 174 = .ok (.iload 4, 2) := by decide +kernel
theorem dX4_logs_176 : decode cX4_logs 176 = .ok (.iadd, 1) := by decide +kernel
theorem dX4_logs_177 : decode cX4_logs 177 = .ok (.iaload, 1) := by decide +kernel
theorem dX4_logs_178 : decode cX4_logs 178 = .ok (.goto 4, 3) := by decide +kernel
theorem dX4_logs_181 : decode cX4_logs 181 = .ok (.iconst (-1), 1) := by decide +kernel
theorem dX4_logs_182 : decode cX4_logs 182 = .ok (.iastore, 1) := by decide +kernel
theorem dX4_logs_183 : decode cX4_logs 183 = .ok (.aload_n 0, 1) := by decide +kernel
theorem dX4_logs_184 : decode cX4_logs 184 = .ok (.getfield 16, 3) := by decide +kernel
theorem dX4_logs_187 : decode cX4_logs 187 = .ok (.iload_n 3, 1) := by decide +kernel
theorem dX4_logs_188 : decode cX4_logs 188 = .ok (.bipush 14, 2) := by decide +kernel
theorem dX4_logs_190 : decode cX4_logs 190 = .ok (.iadd, 1) := by decide +kernel
theorem dX4_logs_191 : decode cX4_logs 191 = .ok (.iload 4, 2) := by decide +kernel
theorem dX4_logs_193 : decode cX4_logs 193 = .ok (.iadd, 1) := by decide +kernel
theorem dX4_logs_194 : decode cX4_logs 194 = .ok (.iload_n 1, 1) := by decide +kernel
theorem dX4_logs_195 : decode cX4_logs 195 = .ok (.iconst (-1), 1) := by decide +kernel
theorem dX4_logs_196 : decode cX4_logs 196 = .ok (.if_icmp .eq 32, 3) := by decide +kernel
theorem dX4_logs_199 : decode cX4_logs 199 = .ok (.aload_n 0, 1) := by decide +kernel
theorem dX4_logs_200 : decode cX4_logs 200 = .ok (.getfield 38, 3) := by decide +kernel
theorem dX4_logs_203 : decode cX4_logs 203 = .ok (.iload_n 1, 1) := by decide +kernel
theorem dX4_logs_204 : decode cX4_logs 204 = .ok (.iaload, 1) := by decide +kernel
theorem dX4_logs_205 : decode cX4_logs 205 = .ok (.iload 4, 2) := by decide +kernel
theorem dX4_logs_207 : decode cX4_logs 207 = .ok (.invokestatic 183, 3) := by decide +kernel
theorem dX4_logs_210 : decode cX4_logs 210 = .ok (.ifCond .eq 18, 3) := by decide +kernel
theorem dX4_logs_213 : decode cX4_logs 213 = .ok (.aload_n 0, 1) := by decide +kernel
theorem dX4_logs_214 : decode cX4_logs 214 = .ok (.getfield 47, 3) := by decide +kernel
theorem dX4_logs_217 : decode cX4_logs 217 = .ok (.bipush 8, 2) := by decide +kernel
theorem dX4_logs_219 : decode cX4_logs 219 = .ok (.iload_n 1, 1) := by decide +kernel
theorem dX4_logs_220 : decode cX4_logs 220 = .ok (.imul, 1) := by decide +kernel
theorem dX4_logs_221 : decode cX4_logs 221 = .ok (.iload 4, 2) := by decide +kernel
theorem dX4_logs_223 : decode cX4_logs 223 = .ok (.iadd, 1) := by decide +kernel
theorem dX4_logs_224 : decode cX4_logs 224 = .ok (.iaload, 1) := by decide +kernel
theorem dX4_logs_225 : decode cX4_logs 225 = .ok (.goto 4, 3) := by decide +kernel
theorem dX4_logs_228 : decode cX4_logs 228 = .ok (.iconst (-1), 1) := by decide +kernel
theorem dX4_logs_229 : decode cX4_logs 229 = .ok (.iastore, 1) := by decide +kernel
theorem dX4_logs_230 : decode cX4_logs 230 = .ok (.iinc 4 1, 3) := by decide +kernel
theorem dX4_logs_233 : decode cX4_logs 233 = .ok (.goto (-104), 3) := by decide +kernel
theorem dX4_logs_236 : decode cX4_logs 236 = .ok (.iload_n 3, 1) := by decide +kernel
theorem dX4_logs_237 : decode cX4_logs 237 = .ok (.ireturn, 1) := by decide +kernel
theorem dX4_puts_0 : decode cX4_puts 0 = .ok (.aload_n 0, 1) := by decide +kernel
theorem dX4_puts_1 : decode cX4_puts 1 = .ok (.getfield 7, 3) := by decide +kernel
theorem dX4_puts_4 : decode cX4_puts 4 = .ok (.iload_n 1, 1) := by decide +kernel
theorem dX4_puts_5 : decode cX4_puts 5 = .ok (.iload_n 2, 1) := by decide +kernel
theorem dX4_puts_6 : decode cX4_puts 6 = .ok (.iastore, 1) := by decide +kernel
theorem dX4_puts_7 : decode cX4_puts 7 = .ok (.aload_n 0, 1) := by decide +kernel
theorem dX4_puts_8 : decode cX4_puts 8 = .ok (.getfield 13, 3) := by decide +kernel
theorem dX4_puts_11 : decode cX4_puts 11 = .ok (.iload_n 1, 1) := by decide +kernel
theorem dX4_puts_12 : decode cX4_puts 12 = .ok (.aload_n 0, 1) := by decide +kernel
theorem dX4_puts_13 : decode cX4_puts 13 = .ok (.getfield 81, 3) := by decide +kernel
theorem dX4_puts_16 : decode cX4_puts 16 = .ok (.iastore, 1) := by decide +kernel
theorem dX4_puts_17 : decode cX4_puts 17 = .ok (.return_, 1) := by decide +kernel
theorem dX4_put_0 : decode cX4_put 0 = .ok (.iload_n 1, 1) := by decide +kernel
theorem dX4_put_1 : decode cX4_put 1 = .ok (.invokestatic 180, 3) := by decide +kernel
theorem dX4_put_4 : decode cX4_put 4 = .ok (.ifCond .ne 6, 3) := by decide +kernel
theorem dX4_put_7 : decode cX4_put 7 = .ok (.bipush (-2), 2) := by decide +kernel
theorem dX4_put_9 : decode cX4_put 9 = .ok (.ireturn, 1) := by decide +kernel
theorem dX4_put_10 : decode cX4_put 10 = .ok (.iload_n 2, 1) := by decide +kernel
theorem dX4_put_11 : decode cX4_put 11 = .ok (.i2l, 1) := by decide +kernel
theorem dX4_put_12 : decode cX4_put 12 = .ok (.lconst 0, 1) := by decide +kernel
theorem dX4_put_13 : decode cX4_put 13 = .ok (.ldc2_w 187, 3) := by decide +kernel
theorem dX4_put_16 : decode cX4_put 16 = .ok (.invokestatic 71, 3) := by decide +kernel
theorem dX4_put_19 : decode cX4_put 19 = .ok (.ifCond .ne 6, 3) := by decide +kernel
theorem dX4_put_22 : decode cX4_put 22 = .ok (.bipush (-3), 2) := by decide +kernel
theorem dX4_put_24 : decode cX4_put 24 = .ok (.ireturn, 1) := by decide +kernel
theorem dX4_put_25 : decode cX4_put 25 = .ok (.aload_n 0, 1) := by decide +kernel
theorem dX4_put_26 : decode cX4_put 26 = .ok (.iconst 3, 1) := by decide +kernel
theorem dX4_put_27 : decode cX4_put 27 = .ok (.invokevirtual 189, 3) := by decide +kernel
theorem dX4_put_30 : decode cX4_put 30 = .ok (.ifCond .le 6, 3) := by decide +kernel
theorem dX4_put_33 : decode cX4_put 33 = .ok (.bipush (-4), 2) := by decide +kernel
theorem dX4_put_35 : decode cX4_put 35 = .ok (.ireturn, 1) := by decide +kernel
theorem dX4_put_36 : decode cX4_put 36 = .ok (.aload_n 0, 1) := by decide +kernel
theorem dX4_put_37 : decode cX4_put 37 = .ok (.iconst (-1), 1) := by decide +kernel
theorem dX4_put_38 : decode cX4_put 38 = .ok (.iconst 4, 1) := by decide +kernel
theorem dX4_put_39 : decode cX4_put 39 = .ok (.invokevirtual 192, 3) := by decide +kernel
theorem dX4_put_42 : decode cX4_put 42 = .ok (.istore_n 3, 1) := by decide +kernel
theorem dX4_put_43 : decode cX4_put 43 = .ok (.aload_n 0, 1) := by decide +kernel
theorem dX4_put_44 : decode cX4_put 44 = .ok (.getfield 16, 3) := by decide +kernel
theorem dX4_put_47 : decode cX4_put 47 = .ok (.iload_n 3, 1) := by decide +kernel
theorem dX4_put_48 : decode cX4_put 48 = .ok (.iconst 4, 1) := by decide +kernel
theorem dX4_put_49 : decode cX4_put 49 = .ok (.iadd, 1) := by decide +kernel
theorem dX4_put_50 : decode cX4_put 50 = .ok (.iconst 1, 1) := by decide +kernel
theorem dX4_put_51 : decode cX4_put 51 = .ok (.iload_n 1, 1) := by decide +kernel
theorem dX4_put_52 : decode cX4_put 52 = .ok (.ishl, 1) := by decide +kernel
theorem dX4_put_53 : decode cX4_put 53 = .ok (.iastore, 1) := by decide +kernel
theorem dX4_put_54 : decode cX4_put 54 = .ok (.aload_n 0, 1) := by decide +kernel
theorem dX4_put_55 : decode cX4_put 55 = .ok (.getfield 16, 3) := by decide +kernel
theorem dX4_put_58 : decode cX4_put 58 = .ok (.iload_n 3, 1) := by decide +kernel
theorem dX4_put_59 : decode cX4_put 59 = .ok (.bipush 14, 2) := by decide +kernel
theorem dX4_put_61 : decode cX4_put 61 = .ok (.iadd, 1) := by decide +kernel
theorem dX4_put_62 : decode cX4_put 62 = .ok (.iload_n 1, 1) := by decide +kernel
theorem dX4_put_63 : decode cX4_put 63 = .ok (.iadd, 1) := by decide +kernel
theorem dX4_put_64 : decode cX4_put 64 = .ok (.iload_n 2, 1) := by decide +kernel
theorem dX4_put_65 : decode cX4_put 65 = .ok (.iastore, 1) := by decide +kernel
theorem dX4_put_66 : decode cX4_put 66 = .ok (.aload_n 0, 1) := by decide +kernel
theorem dX4_put_67 : decode cX4_put 67 = .ok (.iload_n 1, 1) := by decide +kernel
theorem dX4_put_68 : decode cX4_put 68 = .ok (.iload_n 2, 1) := by decide +kernel
theorem dX4_put_69 : decode cX4_put 69 = .ok (.invokevirtual 195, 3) := by decide +kernel
theorem dX4_put_72 : decode cX4_put 72 = .ok (.aload_n 0, 1) := by decide +kernel
theorem dX4_put_73 : decode cX4_put 73 = .ok (.getfield 81, 3) := by decide +kernel
theorem dX4_put_76 : decode cX4_put 76 = .ok (.ireturn, 1) := by decide +kernel
theorem dX4_limit_0 : decode cX4_limit 0 = .ok (.iload_n 1, 1) := by decide +kernel
theorem dX4_limit_1 : decode cX4_limit 1 = .ok (.i2l, 1) := by decide +kernel
theorem dX4_limit_2 : decode cX4_limit 2 = .ok (.lconst 1, 1) := by decide +kernel
theorem dX4_limit_3 : decode cX4_limit 3 = .ok (.ldc2_w 199, 3) := by decide +kernel
theorem dX4_limit_6 : decode cX4_limit 6 = .ok (.invokestatic 71, 3) := by decide +kernel
theorem dX4_limit_9 : decode cX4_limit 9 = .ok (.ifCond .ne 6, 3) := by decide +kernel
theorem dX4_limit_12 : decode cX4_limit 12 = .ok (.bipush (-3), 2) := by decide +kernel
theorem dX4_limit_14 : decode cX4_limit 14 = .ok (.ireturn, 1) := by decide +kernel
theorem dX4_limit_15 : decode cX4_limit 15 = .ok (.aload_n 0, 1) := by decide +kernel
theorem dX4_limit_16 : decode cX4_limit 16 = .ok (.getfield 56, 3) := by decide +kernel
theorem dX4_limit_19 : decode cX4_limit 19 = .ok (.istore_n 2, 1) := by decide +kernel
theorem dX4_limit_20 : decode cX4_limit 20 = .ok (.aload_n 0, 1) := by decide +kernel
theorem dX4_limit_21 : decode cX4_limit 21 = .ok (.iload_n 1, 1) := by decide +kernel
theorem dX4_limit_22 : decode cX4_limit 22 = .ok (.putfield 56, 3) := by decide +kernel
theorem dX4_limit_25 : decode cX4_limit 25 = .ok (.iload_n 2, 1) := by decide +kernel
theorem dX4_limit_26 : decode cX4_limit 26 = .ok (.ireturn, 1) := by decide +kernel
theorem dX4_begin_0 : decode cX4_begin 0 = .ok (.iload_n 1, 1) := by decide +kernel
theorem dX4_begin_1 : decode cX4_begin 1 = .ok (.invokestatic 201, 3) := by decide +kernel
theorem dX4_begin_4 : decode cX4_begin 4 = .ok (.ifCond .ne 6, 3) := by decide +kernel
theorem dX4_begin_7 : decode cX4_begin 7 = .ok (.bipush (-2), 2) := by decide +kernel
theorem dX4_begin_9 : decode cX4_begin 9 = .ok (.ireturn, 1) := by decide +kernel
theorem dX4_begin_10 : decode cX4_begin 10 = .ok (.aload_n 0, 1) := by decide +kernel
theorem dX4_begin_11 : decode cX4_begin 11 = .ok (.getfield 19, 3) := by decide +kernel
theorem dX4_begin_14 : decode cX4_begin 14 = .ok (.iload_n 1, 1) := by decide +kernel
theorem dX4_begin_15 : decode cX4_begin 15 = .ok (.iaload, 1) := by decide +kernel
theorem dX4_begin_16 : decode cX4_begin 16 = .ok (.ifCond .eq 6, 3) := by decide +kernel
theorem dX4_begin_19 : decode cX4_begin 19 = .ok (.bipush (-4), 2) := by decide +kernel
theorem dX4_begin_21 : decode cX4_begin 21 = .ok (.ireturn, 1) := by decide +kernel
theorem dX4_begin_22 : decode cX4_begin 22 = .ok (.aload_n 0, 1) := by decide +kernel
theorem dX4_begin_23 : decode cX4_begin 23 = .ok (.iload_n 1, 1) := by decide +kernel
theorem dX4_begin_24 : decode cX4_begin 24 = .ok (.invokevirtual 204, 3) := by decide +kernel
theorem dX4_begin_27 : decode cX4_begin 27 = .ok (.aload_n 0, 1) := by decide +kernel
theorem dX4_begin_28 : decode cX4_begin 28 = .ok (.dup, 1) := by decide +kernel
theorem dX4_begin_29 : decode cX4_begin 29 = .ok (.getfield 87, 3) := by decide +kernel
theorem dX4_begin_32 : decode cX4_begin 32 = .ok (.iconst 1, 1) := by decide +kernel
theorem dX4_begin_33 : decode cX4_begin 33 = .ok (.iadd, 1) := by decide +kernel
theorem dX4_begin_34 : decode cX4_begin 34 = .ok (.putfield 87, 3) := by decide +kernel
theorem dX4_begin_37 : decode cX4_begin 37 = .ok (.aload_n 0, 1) := by decide +kernel
theorem dX4_begin_38 : decode cX4_begin 38 = .ok (.getfield 25, 3) := by decide +kernel
theorem dX4_begin_41 : decode cX4_begin 41 = .ok (.iload_n 1, 1) := by decide +kernel
theorem dX4_begin_42 : decode cX4_begin 42 = .ok (.aload_n 0, 1) := by decide +kernel
theorem dX4_begin_43 : decode cX4_begin 43 = .ok (.getfield 87, 3) := by decide +kernel
theorem dX4_begin_46 : decode cX4_begin 46 = .ok (.iastore, 1) := by decide +kernel
theorem dX4_begin_47 : decode cX4_begin 47 = .ok (.aload_n 0, 1) := by decide +kernel
theorem dX4_begin_48 : decode cX4_begin 48 = .ok (.getfield 28, 3) := by decide +kernel
theorem dX4_begin_51 : decode cX4_begin 51 = .ok (.iload_n 1, 1) := by decide +kernel
theorem dX4_begin_52 : decode cX4_begin 52 = .ok (.iconst 0, 1) := by decide +kernel
theorem dX4_begin_53 : decode cX4_begin 53 = .ok (.iastore, 1) := by decide +kernel
theorem dX4_begin_54 : decode cX4_begin 54 = .ok (.aload_n 0, 1) := by decide +kernel
theorem dX4_begin_55 : decode cX4_begin 55 = .ok (.getfield 87, 3) := by decide +kernel
theorem dX4_begin_58 : decode cX4_begin 58 = .ok (.ireturn, 1) := by decide +kernel
theorem dX4_retry_0 : decode cX4_retry 0 = .ok (.iload_n 1, 1) := by decide +kernel
theorem dX4_retry_1 : decode cX4_retry 1 = .ok (.invokestatic 201, 3) := by decide +kernel
theorem dX4_retry_4 : decode cX4_retry 4 = .ok (.ifCond .ne 6, 3) := by decide +kernel
theorem dX4_retry_7 : decode cX4_retry 7 = .ok (.bipush (-2), 2) := by decide +kernel
theorem dX4_retry_9 : decode cX4_retry 9 = .ok (.ireturn, 1) := by decide +kernel
theorem dX4_retry_10 : decode cX4_retry 10 = .ok (.aload_n 0, 1) := by decide +kernel
theorem dX4_retry_11 : decode cX4_retry 11 = .ok (.getfield 31, 3) := by decide +kernel
theorem dX4_retry_14 : decode cX4_retry 14 = .ok (.iload_n 1, 1) := by decide +kernel
theorem dX4_retry_15 : decode cX4_retry 15 = .ok (.baload, 1) := by decide +kernel
theorem dX4_retry_16 : decode cX4_retry 16 = .ok (.ifCond .ne 6, 3) := by decide +kernel
theorem dX4_retry_19 : decode cX4_retry 19 = .ok (.bipush (-4), 2) := by decide +kernel
theorem dX4_retry_21 : decode cX4_retry 21 = .ok (.ireturn, 1) := by decide +kernel
theorem dX4_retry_22 : decode cX4_retry 22 = .ok (.aload_n 0, 1) := by decide +kernel
theorem dX4_retry_23 : decode cX4_retry 23 = .ok (.iload_n 1, 1) := by decide +kernel
theorem dX4_retry_24 : decode cX4_retry 24 = .ok (.invokevirtual 204, 3) := by decide +kernel
theorem dX4_retry_27 : decode cX4_retry 27 = .ok (.aload_n 0, 1) := by decide +kernel
theorem dX4_retry_28 : decode cX4_retry 28 = .ok (.getfield 28, 3) := by decide +kernel
theorem dX4_retry_31 : decode cX4_retry 31 = .ok (.iload_n 1, 1) := by decide +kernel
theorem dX4_retry_32 : decode cX4_retry 32 = .ok (.dup2, 1) := by decide +kernel
theorem dX4_retry_33 : decode cX4_retry 33 = .ok (.iaload, 1) := by decide +kernel
theorem dX4_retry_34 : decode cX4_retry 34 = .ok (.iconst 1, 1) := by decide +kernel
theorem dX4_retry_35 : decode cX4_retry 35 = .ok (.iadd, 1) := by decide +kernel
theorem dX4_retry_36 : decode cX4_retry 36 = .ok (.iastore, 1) := by decide +kernel
theorem dX4_retry_37 : decode cX4_retry 37 = .ok (.aload_n 0, 1) := by decide +kernel
theorem dX4_retry_38 : decode cX4_retry 38 = .ok (.getfield 28, 3) := by decide +kernel
theorem dX4_retry_41 : decode cX4_retry 41 = .ok (.iload_n 1, 1) := by decide +kernel
theorem dX4_retry_42 : decode cX4_retry 42 = .ok (.iaload, 1) := by decide +kernel
theorem dX4_retry_43 : decode cX4_retry 43 = .ok (.ireturn, 1) := by decide +kernel
theorem dX4_read_0 : decode cX4_read 0 = .ok (.iload_n 1, 1) := by decide +kernel
theorem dX4_read_1 : decode cX4_read 1 = .ok (.invokestatic 201, 3) := by decide +kernel
theorem dX4_read_4 : decode cX4_read 4 = .ok (.ifCond .eq 10, 3) := by decide +kernel
theorem dX4_read_7 : decode cX4_read 7 = .ok (.iload_n 2, 1) := by decide +kernel
theorem dX4_read_8 : decode cX4_read 8 = .ok (.invokestatic 180, 3) := by decide +kernel
theorem dX4_read_11 : decode cX4_read 11 = .ok (.ifCond .ne 6, 3) := by decide +kernel
theorem dX4_read_14 : decode cX4_read 14 = .ok (.bipush (-2), 2) := by decide +kernel
theorem dX4_read_16 : decode cX4_read 16 = .ok (.ireturn, 1) := by decide +kernel
theorem dX4_read_17 : decode cX4_read 17 = .ok (.aload_n 0, 1) := by decide +kernel
theorem dX4_read_18 : decode cX4_read 18 = .ok (.getfield 19, 3) := by decide +kernel
theorem dX4_read_21 : decode cX4_read 21 = .ok (.iload_n 1, 1) := by decide +kernel
theorem dX4_read_22 : decode cX4_read 22 = .ok (.iaload, 1) := by decide +kernel
theorem dX4_read_23 : decode cX4_read 23 = .ok (.iconst 1, 1) := by decide +kernel
theorem dX4_read_24 : decode cX4_read 24 = .ok (.if_icmp .eq 6, 3) := by decide +kernel
theorem dX4_read_27 : decode cX4_read 27 = .ok (.bipush (-4), 2) := by decide +kernel
theorem dX4_read_29 : decode cX4_read 29 = .ok (.ireturn, 1) := by decide +kernel
theorem dX4_read_30 : decode cX4_read 30 = .ok (.bipush 8, 2) := by decide +kernel
theorem dX4_read_32 : decode cX4_read 32 = .ok (.iload_n 1, 1) := by decide +kernel
theorem dX4_read_33 : decode cX4_read 33 = .ok (.imul, 1) := by decide +kernel
theorem dX4_read_34 : decode cX4_read 34 = .ok (.iload_n 2, 1) := by decide +kernel
theorem dX4_read_35 : decode cX4_read 35 = .ok (.iadd, 1) := by decide +kernel
theorem dX4_read_36 : decode cX4_read 36 = .ok (.istore_n 3, 1) := by decide +kernel
theorem dX4_read_37 : decode cX4_read 37 = .ok (.aload_n 0, 1) := by decide +kernel
theorem dX4_read_38 : decode cX4_read 38 = .ok (.getfield 38, 3) := by decide +kernel
theorem dX4_read_41 : decode cX4_read 41 = .ok (.iload_n 1, 1) := by decide +kernel
theorem dX4_read_42 : decode cX4_read 42 = .ok (.iaload, 1) := by decide +kernel
theorem dX4_read_43 : decode cX4_read 43 = .ok (.iload_n 2, 1) := by decide +kernel
theorem dX4_read_44 : decode cX4_read 44 = .ok (.invokestatic 183, 3) := by decide +kernel
theorem dX4_read_47 : decode cX4_read 47 = .ok (.ifCond .eq 10, 3) := by decide +kernel
theorem dX4_read_50 : decode cX4_read 50 = .ok (.aload_n 0, 1) := by decide +kernel
theorem dX4_read_51 : decode cX4_read 51 = .ok (.getfield 47, 3) := by decide +kernel
theorem dX4_read_54 : decode cX4_read 54 = .ok (.iload_n 3, 1) := by decide +kernel
theorem dX4_read_55 : decode cX4_read 55 = .ok (.iaload, 1) := by decide +kernel
theorem dX4_read_56 : decode cX4_read 56 = .ok (.ireturn, 1) := by decide +kernel
theorem dX4_read_57 : decode cX4_read 57 = .ok (.aload_n 0, 1) := by decide +kernel
theorem dX4_read_58 : decode cX4_read 58 = .ok (.getfield 35, 3) := by decide +kernel
theorem dX4_read_61 : decode cX4_read 61 = .ok (.iload_n 1, 1) := by decide +kernel
theorem dX4_read_62 : decode cX4_read 62 = .ok (.iaload, 1) := by decide +kernel
theorem dX4_read_63 : decode cX4_read 63 = .ok (.iload_n 2, 1) := by decide +kernel
theorem dX4_read_64 : decode cX4_read 64 = .ok (.invokestatic 183, 3) := by decide +kernel
theorem dX4_read_67 : decode cX4_read 67 = .ok (.ifCond .ne 39, 3) := by decide +kernel
theorem dX4_read_70 : decode cX4_read 70 = .ok (.aload_n 0, 1) := by decide +kernel
theorem dX4_read_71 : decode cX4_read 71 = .ok (.getfield 35, 3) := by decide +kernel
theorem dX4_read_74 : decode cX4_read 74 = .ok (.iload_n 1, 1) := by decide +kernel
theorem dX4_read_75 : decode cX4_read 75 = .ok (.dup2, 1) := by decide +kernel
theorem dX4_read_76 : decode cX4_read 76 = .ok (.iaload, 1) := by decide +kernel
theorem dX4_read_77 : decode cX4_read 77 = .ok (.iconst 1, 1) := by decide +kernel
theorem dX4_read_78 : decode cX4_read 78 = .ok (.iload_n 2, 1) := by decide +kernel
theorem dX4_read_79 : decode cX4_read 79 = .ok (.ishl, 1) := by decide +kernel
theorem dX4_read_80 : decode cX4_read 80 = .ok (.ior, 1) := by decide +kernel
theorem dX4_read_81 : decode cX4_read 81 = .ok (.iastore, 1) := by decide +kernel
theorem dX4_read_82 : decode cX4_read 82 = .ok (.aload_n 0, 1) := by decide +kernel
theorem dX4_read_83 : decode cX4_read 83 = .ok (.getfield 41, 3) := by decide +kernel
theorem dX4_read_86 : decode cX4_read 86 = .ok (.iload_n 3, 1) := by decide +kernel
theorem dX4_read_87 : decode cX4_read 87 = .ok (.aload_n 0, 1) := by decide +kernel
theorem dX4_read_88 : decode cX4_read 88 = .ok (.getfield 7, 3) := by decide +kernel
theorem dX4_read_91 : decode cX4_read 91 = .ok (.iload_n 2, 1) := by decide +kernel
theorem dX4_read_92 : decode cX4_read 92 = .ok (.iaload, 1) := by decide +kernel
theorem dX4_read_93 : decode cX4_read 93 = .ok (.iastore, 1) := by decide +kernel
theorem dX4_read_94 : decode cX4_read 94 = .ok (.aload_n 0, 1) := by decide +kernel
theorem dX4_read_95 : decode cX4_read 95 = .ok (.getfield 44, 3) := by decide +kernel
theorem dX4_read_98 : decode cX4_read 98 = .ok (.iload_n 3, 1) := by decide +kernel
theorem dX4_read_99 : decode cX4_read 99 = .ok (.aload_n 0, 1) := by decide +kernel
theorem dX4_read_100 : decode cX4_read 100 = .ok (.getfield 13, 3) := by decide +kernel
theorem dX4_read_103 : decode cX4_read 103 = .ok (.iload_n 2, 1) := by decide +kernel
theorem dX4_read_104 : decode cX4_read 104 = .ok (.iaload, 1) := by decide +kernel
theorem dX4_read_105 : decode cX4_read 105 = .ok (.iastore, 1) := by decide +kernel
theorem dX4_read_106 : decode cX4_read 106 = .ok (.aload_n 0, 1) := by decide +kernel
theorem dX4_read_107 : decode cX4_read 107 = .ok (.getfield 41, 3) := by decide +kernel
theorem dX4_read_110 : decode cX4_read 110 = .ok (.iload_n 3, 1) := by decide +kernel
theorem dX4_read_111 : decode cX4_read 111 = .ok (.iaload, 1) := by decide +kernel
theorem dX4_read_112 : decode cX4_read 112 = .ok (.ireturn, 1) := by decide +kernel
theorem dX4_lay_0 : decode cX4_lay 0 = .ok (.iload_n 1, 1) := by decide +kernel
theorem dX4_lay_1 : decode cX4_lay 1 = .ok (.invokestatic 201, 3) := by decide +kernel
theorem dX4_lay_4 : decode cX4_lay 4 = .ok (.ifCond .eq 10, 3) := by decide +kernel
theorem dX4_lay_7 : decode cX4_lay 7 = .ok (.iload_n 2, 1) := by decide +kernel
theorem dX4_lay_8 : decode cX4_lay 8 = .ok (.invokestatic 180, 3) := by decide +kernel
theorem dX4_lay_11 : decode cX4_lay 11 = .ok (.ifCond .ne 6, 3) := by decide +kernel
theorem dX4_lay_14 : decode cX4_lay 14 = .ok (.bipush (-2), 2) := by decide +kernel
theorem dX4_lay_16 : decode cX4_lay 16 = .ok (.ireturn, 1) := by decide +kernel
theorem dX4_lay_17 : decode cX4_lay 17 = .ok (.iload_n 3, 1) := by decide +kernel
theorem dX4_lay_18 : decode cX4_lay 18 = .ok (.i2l, 1) := by decide +kernel
theorem dX4_lay_19 : decode cX4_lay 19 = .ok (.lconst 0, 1) := by decide +kernel
theorem dX4_lay_20 : decode cX4_lay 20 = .ok (.ldc2_w 187, 3) := by decide +kernel
theorem dX4_lay_23 : decode cX4_lay 23 = .ok (.invokestatic 71, 3) := by decide +kernel
theorem dX4_lay_26 : decode cX4_lay 26 = .ok (.ifCond .ne 6, 3) := by decide +kernel
theorem dX4_lay_29 : decode cX4_lay 29 = .ok (.bipush (-3), 2) := by decide +kernel
theorem dX4_lay_31 : decode cX4_lay 31 = .ok (.ireturn, 1) := by decide +kernel
theorem dX4_lay_32 : decode cX4_lay 32 = .ok (.aload_n 0, 1) := by decide +kernel
theorem dX4_lay_33 : decode cX4_lay 33 = .ok (.getfield 19, 3) := by decide +kernel
theorem dX4_lay_36 : decode cX4_lay 36 = .ok (.iload_n 1, 1) := by decide +kernel
theorem dX4_lay_37 : decode cX4_lay 37 = .ok (.iaload, 1) := by decide +kernel
theorem dX4_lay_38 : decode cX4_lay 38 = .ok (.iconst 1, 1) := by decide +kernel
theorem dX4_lay_39 : decode cX4_lay 39 = .ok (.if_icmp .eq 6, 3) := by decide +kernel
theorem dX4_lay_42 : decode cX4_lay 42 = .ok (.bipush (-4), 2) := by decide +kernel
theorem dX4_lay_44 : decode cX4_lay 44 = .ok (.ireturn, 1) := by decide +kernel
theorem dX4_lay_45 : decode cX4_lay 45 = .ok (.aload_n 0, 1) := by decide +kernel
theorem dX4_lay_46 : decode cX4_lay 46 = .ok (.getfield 38, 3) := by decide +kernel
theorem dX4_lay_49 : decode cX4_lay 49 = .ok (.iload_n 1, 1) := by decide +kernel
theorem dX4_lay_50 : decode cX4_lay 50 = .ok (.dup2, 1) := by decide +kernel
theorem dX4_lay_51 : decode cX4_lay 51 = .ok (.iaload, 1) := by decide +kernel
theorem dX4_lay_52 : decode cX4_lay 52 = .ok (.iconst 1, 1) := by decide +kernel
theorem dX4_lay_53 : decode cX4_lay 53 = .ok (.iload_n 2, 1) := by decide +kernel
theorem dX4_lay_54 : decode cX4_lay 54 = .ok (.ishl, 1) := by decide +kernel
theorem dX4_lay_55 : decode cX4_lay 55 = .ok (.ior, 1) := by decide +kernel
theorem dX4_lay_56 : decode cX4_lay 56 = .ok (.iastore, 1) := by decide +kernel
theorem dX4_lay_57 : decode cX4_lay 57 = .ok (.aload_n 0, 1) := by decide +kernel
theorem dX4_lay_58 : decode cX4_lay 58 = .ok (.getfield 47, 3) := by decide +kernel
theorem dX4_lay_61 : decode cX4_lay 61 = .ok (.bipush 8, 2) := by decide +kernel
theorem dX4_lay_63 : decode cX4_lay 63 = .ok (.iload_n 1, 1) := by decide +kernel
theorem dX4_lay_64 : decode cX4_lay 64 = .ok (.imul, 1) := by decide +kernel
theorem dX4_lay_65 : decode cX4_lay 65 = .ok (.iload_n 2, 1) := by decide +kernel
theorem dX4_lay_66 : decode cX4_lay 66 = .ok (.iadd, 1) := by decide +kernel
theorem dX4_lay_67 : decode cX4_lay 67 = .ok (.iload_n 3, 1) := by decide +kernel
theorem dX4_lay_68 : decode cX4_lay 68 = .ok (.iastore, 1) := by decide +kernel
theorem dX4_lay_69 : decode cX4_lay 69 = .ok (.aload_n 0, 1) := by decide +kernel
theorem dX4_lay_70 : decode cX4_lay 70 = .ok (.getfield 38, 3) := by decide +kernel
theorem dX4_lay_73 : decode cX4_lay 73 = .ok (.iload_n 1, 1) := by decide +kernel
theorem dX4_lay_74 : decode cX4_lay 74 = .ok (.iaload, 1) := by decide +kernel
theorem dX4_lay_75 : decode cX4_lay 75 = .ok (.invokestatic 207, 3) := by decide +kernel
theorem dX4_lay_78 : decode cX4_lay 78 = .ok (.ireturn, 1) := by decide +kernel
theorem dX4_stale_0 : decode cX4_stale 0 = .ok (.iconst 0, 1) := by decide +kernel
theorem dX4_stale_1 : decode cX4_stale 1 = .ok (.istore_n 2, 1) := by decide +kernel
theorem dX4_stale_2 : decode cX4_stale 2 = .ok (.iconst 0, 1) := by decide +kernel
theorem dX4_stale_3 : decode cX4_stale 3 = .ok (.istore_n 3, 1) := by decide +kernel
theorem dX4_stale_4 : decode cX4_stale 4 = .ok (.iload_n 3, 1) := by decide +kernel
theorem dX4_stale_5 : decode cX4_stale 5 = .ok (.bipush 8, 2) := by decide +kernel
theorem dX4_stale_7 : decode cX4_stale 7 = .ok (.if_icmp .ge 52, 3) := by decide +kernel
theorem dX4_stale_10 : decode cX4_stale 10 = .ok (.iload_n 2, 1) := by decide +kernel
theorem dX4_stale_11 : decode cX4_stale 11 = .ok (.aload_n 0, 1) := by decide +kernel
theorem dX4_stale_12 : decode cX4_stale 12 = .ok (.getfield 35, 3) := by decide +kernel
theorem dX4_stale_15 : decode cX4_stale 15 = .ok (.iload_n 1, 1) := by decide +kernel
theorem dX4_stale_16 : decode cX4_stale 16 = .ok (.iaload, 1) := by decide +kernel
theorem dX4_stale_17 : decode cX4_stale 17 = .ok (.iload_n 3, 1) := by decide +kernel
theorem dX4_stale_18 : decode cX4_stale 18 = .ok (.invokestatic 183, 3) := by decide +kernel
theorem dX4_stale_21 : decode cX4_stale 21 = .ok (.ifCond .eq 29, 3) := by decide +kernel
theorem dX4_stale_24 : decode cX4_stale 24 = .ok (.aload_n 0, 1) := by decide +kernel
theorem dX4_stale_25 : decode cX4_stale 25 = .ok (.getfield 13, 3) := by decide +kernel
theorem dX4_stale_28 : decode cX4_stale 28 = .ok (.iload_n 3, 1) := by decide +kernel
theorem dX4_stale_29 : decode cX4_stale 29 = .ok (.iaload, 1) := by decide +kernel
theorem dX4_stale_30 : decode cX4_stale 30 = .ok (.aload_n 0, 1) := by decide +kernel
theorem dX4_stale_31 : decode cX4_stale 31 = .ok (.getfield 44, 3) := by decide +kernel
theorem dX4_stale_34 : decode cX4_stale 34 = .ok (.bipush 8, 2) := by decide +kernel
theorem dX4_stale_36 : decode cX4_stale 36 = .ok (.iload_n 1, 1) := by decide +kernel
theorem dX4_stale_37 : decode cX4_stale 37 = .ok (.imul, 1) := by decide +kernel
theorem dX4_stale_38 : decode cX4_stale 38 = .ok (.iload_n 3, 1) := by decide +kernel
theorem dX4_stale_39 : decode cX4_stale 39 = .ok (.iadd, 1) := by decide +kernel
theorem dX4_stale_40 : decode cX4_stale 40 = .ok (.iaload, 1) := by decide +kernel
theorem dX4_stale_41 : decode cX4_stale 41 = .ok (.if_icmp .eq 9, 3) := by decide +kernel
theorem dX4_stale_44 : decode cX4_stale 44 = .ok (.iconst 1, 1) := by decide +kernel
theorem dX4_stale_45 : decode cX4_stale 45 = .ok (.iload_n 3, 1) := by decide +kernel
theorem dX4_stale_46 : decode cX4_stale 46 = .ok (.ishl, 1) := by decide +kernel
theorem dX4_stale_47 : decode cX4_stale 47 = .ok (.goto 4, 3) := by decide +kernel
theorem dX4_stale_50 : decode cX4_stale 50 = .ok (.iconst 0, 1) := by decide +kernel
theorem dX4_stale_51 : decode cX4_stale 51 = .ok (.ior, 1) := by decide +kernel
theorem dX4_stale_52 : decode cX4_stale 52 = .ok (.istore_n 2, 1) := by decide +kernel
theorem dX4_stale_53 : decode cX4_stale 53 = .ok (.iinc 3 1, 3) := by decide +kernel
theorem dX4_stale_56 : decode cX4_stale 56 = .ok (.goto (-52), 3) := by decide +kernel
theorem dX4_stale_59 : decode cX4_stale 59 = .ok (.iload_n 2, 1) := by decide +kernel
theorem dX4_stale_60 : decode cX4_stale 60 = .ok (.ireturn, 1) := by decide +kernel
theorem dX4_crossed_0 : decode cX4_crossed 0 = .ok (.iconst 0, 1) := by decide +kernel
theorem dX4_crossed_1 : decode cX4_crossed 1 = .ok (.istore_n 2, 1) := by decide +kernel
theorem dX4_crossed_2 : decode cX4_crossed 2 = .ok (.aload_n 0, 1) := by decide +kernel
theorem dX4_crossed_3 : decode cX4_crossed 3 = .ok (.getfield 22, 3) := by decide +kernel
theorem dX4_crossed_6 : decode cX4_crossed 6 = .ok (.iload_n 1, 1) := by decide +kernel
theorem dX4_crossed_7 : decode cX4_crossed 7 = .ok (.iaload, 1) := by decide +kernel
theorem dX4_crossed_8 : decode cX4_crossed 8 = .ok (.istore_n 3, 1) := by decide +kernel
theorem dX4_crossed_9 : decode cX4_crossed 9 = .ok (.iload_n 3, 1) := by decide +kernel
theorem dX4_crossed_10 : decode cX4_crossed 10 = .ok (.aload_n 0, 1) := by decide +kernel
theorem dX4_crossed_11 : decode cX4_crossed 11 = .ok (.getfield 81, 3) := by decide +kernel
theorem dX4_crossed_14 : decode cX4_crossed 14 = .ok (.if_icmp .ge 30, 3) := by decide +kernel
theorem dX4_crossed_17 : decode cX4_crossed 17 = .ok (.iload_n 2, 1) := by decide +kernel
theorem dX4_crossed_18 : decode cX4_crossed 18 = .ok (.aload_n 0, 1) := by decide +kernel
theorem dX4_crossed_19 : decode cX4_crossed 19 = .ok (.getfield 35, 3) := by decide +kernel
theorem dX4_crossed_22 : decode cX4_crossed 22 = .ok (.iload_n 1, 1) := by decide +kernel
theorem dX4_crossed_23 : decode cX4_crossed 23 = .ok (.iaload, 1) := by decide +kernel
theorem dX4_crossed_24 : decode cX4_crossed 24 = .ok (.aload_n 0, 1) := by decide +kernel
theorem dX4_crossed_25 : decode cX4_crossed 25 = .ok (.getfield 16, 3) := by decide +kernel
theorem dX4_crossed_28 : decode cX4_crossed 28 = .ok (.bipush 22, 2) := by decide +kernel
theorem dX4_crossed_30 : decode cX4_crossed 30 = .ok (.iload_n 3, 1) := by decide +kernel
theorem dX4_crossed_31 : decode cX4_crossed 31 = .ok (.imul, 1) := by decide +kernel
theorem dX4_crossed_32 : decode cX4_crossed 32 = .ok (.iconst 4, 1) := by decide +kernel
theorem dX4_crossed_33 : decode cX4_crossed 33 = .ok (.iadd, 1) := by decide +kernel
theorem dX4_crossed_34 : decode cX4_crossed 34 = .ok (.iaload, 1) := by decide +kernel
theorem dX4_crossed_35 : decode cX4_crossed 35 = .ok (.iand, 1) := by decide +kernel
theorem dX4_crossed_36 : decode cX4_crossed 36 = .ok (.ior, 1) := by decide +kernel
theorem dX4_crossed_37 : decode cX4_crossed 37 = .ok (.istore_n 2, 1) := by decide +kernel
theorem dX4_crossed_38 : decode cX4_crossed 38 = .ok (.iinc 3 1, 3) := by decide +kernel
theorem dX4_crossed_41 : decode cX4_crossed 41 = .ok (.goto (-32), 3) := by decide +kernel
theorem dX4_crossed_44 : decode cX4_crossed 44 = .ok (.iload_n 2, 1) := by decide +kernel
theorem dX4_crossed_45 : decode cX4_crossed 45 = .ok (.ireturn, 1) := by decide +kernel
theorem dX4_rivals_0 : decode cX4_rivals 0 = .ok (.iconst 0, 1) := by decide +kernel
theorem dX4_rivals_1 : decode cX4_rivals 1 = .ok (.istore_n 2, 1) := by decide +kernel
theorem dX4_rivals_2 : decode cX4_rivals 2 = .ok (.iconst 0, 1) := by decide +kernel
theorem dX4_rivals_3 : decode cX4_rivals 3 = .ok (.istore_n 3, 1) := by decide +kernel
theorem dX4_rivals_4 : decode cX4_rivals 4 = .ok (.iload_n 3, 1) := by decide +kernel
theorem dX4_rivals_5 : decode cX4_rivals 5 = .ok (.bipush 6, 2) := by decide +kernel
theorem dX4_rivals_7 : decode cX4_rivals 7 = .ok (.if_icmp .ge 50, 3) := by decide +kernel
theorem dX4_rivals_10 : decode cX4_rivals 10 = .ok (.iload_n 2, 1) := by decide +kernel
theorem dX4_rivals_11 : decode cX4_rivals 11 = .ok (.iload_n 3, 1) := by decide +kernel
theorem dX4_rivals_12 : decode cX4_rivals 12 = .ok (.iload_n 1, 1) := by decide +kernel
theorem dX4_rivals_13 : decode cX4_rivals 13 = .ok (.if_icmp .eq 35, 3) := by decide +kernel
theorem dX4_rivals_16 : decode cX4_rivals 16 = .ok (.aload_n 0, 1) := by decide +kernel
theorem dX4_rivals_17 : decode cX4_rivals 17 = .ok (.getfield 19, 3) := by decide +kernel
theorem dX4_rivals_20 : decode cX4_rivals 20 = .ok (.iload_n 3, 1) := by decide +kernel
theorem dX4_rivals_21 : decode cX4_rivals 21 = .ok (.iaload, 1) := by decide +kernel
theorem dX4_rivals_22 : decode cX4_rivals 22 = .ok (.iconst 1, 1) := by decide +kernel
theorem dX4_rivals_23 : decode cX4_rivals 23 = .ok (.if_icmp .ne 25, 3) := by decide +kernel
theorem dX4_rivals_26 : decode cX4_rivals 26 = .ok (.aload_n 0, 1) := by decide +kernel
theorem dX4_rivals_27 : decode cX4_rivals 27 = .ok (.getfield 35, 3) := by decide +kernel
theorem dX4_rivals_30 : decode cX4_rivals 30 = .ok (.iload_n 3, 1) := by decide +kernel
theorem dX4_rivals_31 : decode cX4_rivals 31 = .ok (.iaload, 1) := by decide +kernel
theorem dX4_rivals_32 : decode cX4_rivals 32 = .ok (.aload_n 0, 1) := by decide +kernel
theorem dX4_rivals_33 : decode cX4_rivals 33 = .ok (.getfield 38, 3) := by decide +kernel
theorem dX4_rivals_36 : decode cX4_rivals 36 = .ok (.iload_n 1, 1) := by decide +kernel
theorem dX4_rivals_37 : decode cX4_rivals 37 = .ok (.iaload, 1) := by decide +kernel
theorem dX4_rivals_38 : decode cX4_rivals 38 = .ok (.iand, 1) := by decide +kernel
theorem dX4_rivals_39 : decode cX4_rivals 39 = .ok (.ifCond .eq 9, 3) := by decide +kernel
theorem dX4_rivals_42 : decode cX4_rivals 42 = .ok (.iconst 1, 1) := by decide +kernel
theorem dX4_rivals_43 : decode cX4_rivals 43 = .ok (.iload_n 3, 1) := by decide +kernel
theorem dX4_rivals_44 : decode cX4_rivals 44 = .ok (.ishl, 1) := by decide +kernel
theorem dX4_rivals_45 : decode cX4_rivals 45 = .ok (.goto 4, 3) := by decide +kernel
theorem dX4_rivals_48 : decode cX4_rivals 48 = .ok (.iconst 0, 1) := by decide +kernel
theorem dX4_rivals_49 : decode cX4_rivals 49 = .ok (.ior, 1) := by decide +kernel
theorem dX4_rivals_50 : decode cX4_rivals 50 = .ok (.istore_n 2, 1) := by decide +kernel
theorem dX4_rivals_51 : decode cX4_rivals 51 = .ok (.iinc 3 1, 3) := by decide +kernel
theorem dX4_rivals_54 : decode cX4_rivals 54 = .ok (.goto (-50), 3) := by decide +kernel
theorem dX4_rivals_57 : decode cX4_rivals 57 = .ok (.iload_n 2, 1) := by decide +kernel
theorem dX4_rivals_58 : decode cX4_rivals 58 = .ok (.ireturn, 1) := by decide +kernel
theorem dX4_isStubborn_0 : decode cX4_isStubborn 0 = .ok (.aload_n 0, 1) := by decide +kernel
theorem dX4_isStubborn_1 : decode cX4_isStubborn 1 = .ok (.getfield 28, 3) := by decide +kernel
theorem dX4_isStubborn_4 : decode cX4_isStubborn 4 = .ok (.iload_n 1, 1) := by decide +kernel
theorem dX4_isStubborn_5 : decode cX4_isStubborn 5 = .ok (.iaload, 1) := by decide +kernel
theorem dX4_isStubborn_6 : decode cX4_isStubborn 6 = .ok (.aload_n 0, 1) := by decide +kernel
theorem dX4_isStubborn_7 : decode cX4_isStubborn 7 = .ok (.getfield 56, 3) := by decide +kernel
theorem dX4_isStubborn_10 : decode cX4_isStubborn 10 = .ok (.if_icmp .lt 7, 3) := by decide +kernel
theorem dX4_isStubborn_13 : decode cX4_isStubborn 13 = .ok (.iconst 1, 1) := by decide +kernel
theorem dX4_isStubborn_14 : decode cX4_isStubborn 14 = .ok (.goto 4, 3) := by decide +kernel
theorem dX4_isStubborn_17 : decode cX4_isStubborn 17 = .ok (.iconst 0, 1) := by decide +kernel
theorem dX4_isStubborn_18 : decode cX4_isStubborn 18 = .ok (.ireturn, 1) := by decide +kernel
theorem dX4_isWeaker_0 : decode cX4_isWeaker 0 = .ok (.iconst 0, 1) := by decide +kernel
theorem dX4_isWeaker_1 : decode cX4_isWeaker 1 = .ok (.istore_n 3, 1) := by decide +kernel
theorem dX4_isWeaker_2 : decode cX4_isWeaker 2 = .ok (.iconst 0, 1) := by decide +kernel
theorem dX4_isWeaker_3 : decode cX4_isWeaker 3 = .ok (.istore 4, 2) := by decide +kernel
theorem dX4_isWeaker_5 : decode cX4_isWeaker 5 = .ok (.iload 4, 2) := by decide +kernel
theorem dX4_isWeaker_7 : decode cX4_isWeaker 7 = .ok (.bipush 6, 2) := by decide +kernel
theorem dX4_isWeaker_9 : decode cX4_isWeaker 9 = .ok (.if_icmp .ge 79, 3) := by decide +kernel
theorem dX4_isWeaker_12 : decode cX4_isWeaker 12 = .ok (.aload_n 0, 1) := by decide +kernel
theorem dX4_isWeaker_13 : decode cX4_isWeaker 13 = .ok (.iload 4, 2) := by decide +kernel
theorem dX4_isWeaker_15 : decode cX4_isWeaker 15 = .ok (.invokevirtual 210, 3) := by decide +kernel
theorem dX4_isWeaker_18 : decode cX4_isWeaker 18 = .ok (.aload_n 0, 1) := by decide +kernel
theorem dX4_isWeaker_19 : decode cX4_isWeaker 19 = .ok (.iload_n 1, 1) := by decide +kernel
theorem dX4_isWeaker_20 : decode cX4_isWeaker 20 = .ok (.invokevirtual 210, 3) := by decide +kernel
theorem dX4_isWeaker_23 : decode cX4_isWeaker 23 = .ok (.if_icmp .eq 12, 3) := by decide +kernel
theorem dX4_isWeaker_26 : decode cX4_isWeaker 26 = .ok (.aload_n 0, 1) := by decide +kernel
theorem dX4_isWeaker_27 : decode cX4_isWeaker 27 = .ok (.iload 4, 2) := by decide +kernel
theorem dX4_isWeaker_29 : decode cX4_isWeaker 29 = .ok (.invokevirtual 210, 3) := by decide +kernel
theorem dX4_isWeaker_32 : decode cX4_isWeaker 32 = .ok (.goto 24, 3) := by decide +kernel
theorem dX4_isWeaker_35 : decode cX4_isWeaker 35 = .ok (.aload_n 0, 1) := by decide +kernel
theorem dX4_isWeaker_36 : decode cX4_isWeaker 36 = .ok (.getfield 25, 3) := by decide +kernel
theorem dX4_isWeaker_39 : decode cX4_isWeaker 39 = .ok (.iload 4, 2) := by decide +kernel
theorem dX4_isWeaker_41 : decode cX4_isWeaker 41 = .ok (.iaload, 1) := by decide +kernel
theorem dX4_isWeaker_42 : decode cX4_isWeaker 42 = .ok (.aload_n 0, 1) := by decide +kernel
theorem dX4_isWeaker_43 : decode cX4_isWeaker 43 = .ok (.getfield 25, 3) := by decide +kernel
theorem dX4_isWeaker_46 : decode cX4_isWeaker 46 = .ok (.iload_n 1, 1) := by decide +kernel
theorem dX4_isWeaker_47 : decode cX4_isWeaker 47 = .ok (.iaload, 1) := by decide +kernel
theorem dX4_isWeaker_48 : decode cX4_isWeaker 48 = .ok (.if_icmp .ge 7, 3) := by decide +kernel
theorem dX4_isWeaker_51 : decode cX4_isWeaker 51 = .ok (.iconst 1, 1) := by decide +kernel
theorem dX4_isWeaker_52 : decode cX4_isWeaker 52 = .ok (.goto 4, 3) := by decide +kernel
theorem dX4_isWeaker_55 : decode cX4_isWeaker 55 = .ok (.iconst 0, 1) := by decide +kernel
theorem dX4_isWeaker_56 : decode cX4_isWeaker 56 = .ok (.istore 5, 2) := by decide +kernel
theorem dX4_isWeaker_58 : decode cX4_isWeaker 58 = .ok (.iload_n 3, 1) := by decide +kernel
theorem dX4_isWeaker_59 : decode cX4_isWeaker 59 = .ok (.ifCond .ne 17, 3) := by decide +kernel
theorem dX4_isWeaker_62 : decode cX4_isWeaker 62 = .ok (.iload_n 2, 1) := by decide +kernel
theorem dX4_isWeaker_63 : decode cX4_isWeaker 63 = .ok (.iload 4, 2) := by decide +kernel
theorem dX4_isWeaker_65 : decode cX4_isWeaker 65 = .ok (.invokestatic 183, 3) := by decide +kernel
theorem dX4_isWeaker_68 : decode cX4_isWeaker 68 = .ok (.ifCond .eq 12, 3) := by decide +kernel
theorem dX4_isWeaker_71 : decode cX4_isWeaker 71 = .ok (.iload 5, 2) := by decide +kernel
theorem dX4_isWeaker_73 : decode cX4_isWeaker 73 = .ok (.ifCond .eq 7, 3) := by decide +kernel
theorem dX4_isWeaker_76 : decode cX4_isWeaker 76 = .ok (.iconst 1, 1) := by decide +kernel
theorem dX4_isWeaker_77 : decode cX4_isWeaker 77 = .ok (.goto 4, 3) := by decide +kernel
theorem dX4_isWeaker_80 : decode cX4_isWeaker 80 = .ok (.iconst 0, 1) := by decide +kernel
theorem dX4_isWeaker_81 : decode cX4_isWeaker 81 = .ok (.istore_n 3, 1) := by decide +kernel
theorem dX4_isWeaker_82 : decode cX4_isWeaker 82 = .ok (.iinc 4 1, 3) := by decide +kernel
theorem dX4_isWeaker_85 : decode cX4_isWeaker 85 = .ok (.goto (-80), 3) := by decide +kernel
theorem dX4_isWeaker_88 : decode cX4_isWeaker 88 = .ok (.iload_n 3, 1) := by decide +kernel
theorem dX4_isWeaker_89 : decode cX4_isWeaker 89 = .ok (.ireturn, 1) := by decide +kernel
theorem dX4_checks_0 : decode cX4_checks 0 = .ok (.aload_n 0, 1) := by decide +kernel
theorem dX4_checks_1 : decode cX4_checks 1 = .ok (.iload_n 1, 1) := by decide +kernel
