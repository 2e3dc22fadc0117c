theorem dX0_init_0 : decode cX0_init 0 = .ok (.aload_n 0, 1) := by decide +kernel
theorem dX0_init_1 : decode cX0_init 1 = .ok (.invokespecial 3, 3) := by decide +kernel
theorem dX0_init_4 : decode cX0_init 4 = .ok (.aload_n 0, 1) := by decide +kernel
theorem dX0_init_5 : decode cX0_init 5 = .ok (.bipush 21, 2) := by decide +kernel
theorem dX0_init_7 : decode cX0_init 7 = .ok (.newarray .long, 2) := by decide +kernel
theorem dX0_init_9 : decode cX0_init 9 = .ok (.putfield 9, 3) := by decide +kernel
theorem dX0_init_12 : decode cX0_init 12 = .ok (.aload_n 0, 1) := by decide +kernel
theorem dX0_init_13 : decode cX0_init 13 = .ok (.bipush 21, 2) := by decide +kernel
theorem dX0_init_15 : decode cX0_init 15 = .ok (.newarray .long, 2) := by decide +kernel
theorem dX0_init_17 : decode cX0_init 17 = .ok (.putfield 15, 3) := by decide +kernel
theorem dX0_init_20 : decode cX0_init 20 = .ok (.return_, 1) := by decide +kernel
theorem dX0_weighDays_0 : decode cX0_weighDays 0 = .ok (.aload_n 0, 1) := by decide +kernel
theorem dX0_weighDays_1 : decode cX0_weighDays 1 = .ok (.lconst 1, 1) := by decide +kernel
theorem dX0_weighDays_2 : decode cX0_weighDays 2 = .ok (.putfield 18, 3) := by decide +kernel
theorem dX0_weighDays_5 : decode cX0_weighDays 5 = .ok (.iconst 0, 1) := by decide +kernel
theorem dX0_weighDays_6 : decode cX0_weighDays 6 = .ok (.istore 4, 2) := by decide +kernel
theorem dX0_weighDays_8 : decode cX0_weighDays 8 = .ok (.iload 4, 2) := by decide +kernel
theorem dX0_weighDays_10 : decode cX0_weighDays 10 = .ok (.bipush 9, 2) := by decide +kernel
theorem dX0_weighDays_12 : decode cX0_weighDays 12 = .ok (.if_icmp .gt 22, 3) := by decide +kernel
theorem dX0_weighDays_15 : decode cX0_weighDays 15 = .ok (.aload_n 0, 1) := by decide +kernel
theorem dX0_weighDays_16 : decode cX0_weighDays 16 = .ok (.getfield 9, 3) := by decide +kernel
theorem dX0_weighDays_19 : decode cX0_weighDays 19 = .ok (.iload 4, 2) := by decide +kernel
theorem dX0_weighDays_21 : decode cX0_weighDays 21 = .ok (.bipush 10, 2) := by decide +kernel
theorem dX0_weighDays_23 : decode cX0_weighDays 23 = .ok (.iload 4, 2) := by decide +kernel
theorem dX0_weighDays_25 : decode cX0_weighDays 25 = .ok (.isub, 1) := by decide +kernel
theorem dX0_weighDays_26 : decode cX0_weighDays 26 = .ok (.i2l, 1) := by decide +kernel
theorem dX0_weighDays_27 : decode cX0_weighDays 27 = .ok (.lastore, 1) := by decide +kernel
theorem dX0_weighDays_28 : decode cX0_weighDays 28 = .ok (.iinc 4 1, 3) := by decide +kernel
theorem dX0_weighDays_31 : decode cX0_weighDays 31 = .ok (.goto (-23), 3) := by decide +kernel
theorem dX0_weighDays_34 : decode cX0_weighDays 34 = .ok (.iconst 0, 1) := by decide +kernel
theorem dX0_weighDays_35 : decode cX0_weighDays 35 = .ok (.istore 4, 2) := by decide +kernel
theorem dX0_weighDays_37 : decode cX0_weighDays 37 = .ok (.iload 4, 2) := by decide +kernel
theorem dX0_weighDays_39 : decode cX0_weighDays 39 = .ok (.iload_n 1, 1) := by decide +kernel
theorem dX0_weighDays_40 : decode cX0_weighDays 40 = .ok (.if_icmp .ge 106, 3) := by decide +kernel
theorem dX0_weighDays_43 : decode cX0_weighDays 43 = .ok (.aload_n 0, 1) := by decide +kernel
theorem dX0_weighDays_44 : decode cX0_weighDays 44 = .ok (.dup, 1) := by decide +kernel
theorem dX0_weighDays_45 : decode cX0_weighDays 45 = .ok (.getfield 18, 3) := by decide +kernel
theorem dX0_weighDays_48 : decode cX0_weighDays 48 = .ok (.ldc2_w 22, 3) := by decide +kernel
theorem dX0_weighDays_51 : decode cX0_weighDays 51 = .ok (.lmul, 1) := by decide +kernel
theorem dX0_weighDays_52 : decode cX0_weighDays 52 = .ok (.putfield 18, 3) := by decide +kernel
theorem dX0_weighDays_55 : decode cX0_weighDays 55 = .ok (.iconst 0, 1) := by decide +kernel
theorem dX0_weighDays_56 : decode cX0_weighDays 56 = .ok (.istore 5, 2) := by decide +kernel
theorem dX0_weighDays_58 : decode cX0_weighDays 58 = .ok (.iload 5, 2) := by decide +kernel
theorem dX0_weighDays_60 : decode cX0_weighDays 60 = .ok (.bipush 9, 2) := by decide +kernel
theorem dX0_weighDays_62 : decode cX0_weighDays 62 = .ok (.if_icmp .gt 74, 3) := by decide +kernel
theorem dX0_weighDays_65 : decode cX0_weighDays 65 = .ok (.iload_n 2, 1) := by decide +kernel
theorem dX0_weighDays_66 : decode cX0_weighDays 66 = .ok (.i2l, 1) := by decide +kernel
theorem dX0_weighDays_67 : decode cX0_weighDays 67 = .ok (.aload_n 0, 1) := by decide +kernel
theorem dX0_weighDays_68 : decode cX0_weighDays 68 = .ok (.getfield 9, 3) := by decide +kernel
theorem dX0_weighDays_71 : decode cX0_weighDays 71 = .ok (.iconst 0, 1) := by decide +kernel
theorem dX0_weighDays_72 : decode cX0_weighDays 72 = .ok (.iload 5, 2) := by decide +kernel
theorem dX0_weighDays_74 : decode cX0_weighDays 74 = .ok (.iconst 1, 1) := by decide +kernel
theorem dX0_weighDays_75 : decode cX0_weighDays 75 = .ok (.isub, 1) := by decide +kernel
theorem dX0_weighDays_76 : decode cX0_weighDays 76 = .ok (.invokestatic 24, 3) := by decide +kernel
theorem dX0_weighDays_79 : decode cX0_weighDays 79 = .ok (.laload, 1) := by decide +kernel
theorem dX0_weighDays_80 : decode cX0_weighDays 80 = .ok (.lmul, 1) := by decide +kernel
theorem dX0_weighDays_81 : decode cX0_weighDays 81 = .ok (.bipush 10, 2) := by decide +kernel
theorem dX0_weighDays_83 : decode cX0_weighDays 83 = .ok (.iload_n 2, 1) := by decide +kernel
theorem dX0_weighDays_84 : decode cX0_weighDays 84 = .ok (.isub, 1) := by decide +kernel
theorem dX0_weighDays_85 : decode cX0_weighDays 85 = .ok (.i2l, 1) := by decide +kernel
theorem dX0_weighDays_86 : decode cX0_weighDays 86 = .ok (.aload_n 0, 1) := by decide +kernel
theorem dX0_weighDays_87 : decode cX0_weighDays 87 = .ok (.getfield 9, 3) := by decide +kernel
theorem dX0_weighDays_90 : decode cX0_weighDays 90 = .ok (.bipush 9, 2) := by decide +kernel
theorem dX0_weighDays_92 : decode cX0_weighDays 92 = .ok (.iload 5, 2) := by decide +kernel
theorem dX0_weighDays_94 : decode cX0_weighDays 94 = .ok (.iconst 1, 1) := by decide +kernel
theorem dX0_weighDays_95 : decode cX0_weighDays 95 = .ok (.iadd, 1) := by decide +kernel
theorem dX0_weighDays_96 : decode cX0_weighDays 96 = .ok (.invokestatic 30, 3) := by decide +kernel
theorem dX0_weighDays_99 : decode cX0_weighDays 99 = .ok (.laload, 1) := by decide +kernel
theorem dX0_weighDays_100 : decode cX0_weighDays 100 = .ok (.lmul, 1) := by decide +kernel
theorem dX0_weighDays_101 : decode cX0_weighDays 101 = .ok (.ladd, 1) := by decide +kernel
theorem dX0_weighDays_102 : decode cX0_weighDays 102 = .ok (.iload_n 3, 1) := by decide +kernel
theorem dX0_weighDays_103 : decode cX0_weighDays 103 = .ok (.i2l, 1) := by decide +kernel
theorem dX0_weighDays_104 : decode cX0_weighDays 104 = .ok (.aload_n 0, 1) := by decide +kernel
theorem dX0_weighDays_105 : decode cX0_weighDays 105 = .ok (.getfield 18, 3) := by decide +kernel
theorem dX0_weighDays_108 : decode cX0_weighDays 108 = .ok (.lmul, 1) := by decide +kernel
theorem dX0_weighDays_109 : decode cX0_weighDays 109 = .ok (.lsub, 1) := by decide +kernel
theorem dX0_weighDays_110 : decode cX0_weighDays 110 = .ok (.lstore 6, 2) := by decide +kernel
theorem dX0_weighDays_112 : decode cX0_weighDays 112 = .ok (.aload_n 0, 1) := by decide +kernel
theorem dX0_weighDays_113 : decode cX0_weighDays 113 = .ok (.getfield 15, 3) := by decide +kernel
theorem dX0_weighDays_116 : decode cX0_weighDays 116 = .ok (.iload 5, 2) := by decide +kernel
theorem dX0_weighDays_118 : decode cX0_weighDays 118 = .ok (.lload 6, 2) := by decide +kernel
theorem dX0_weighDays_120 : decode cX0_weighDays 120 = .ok (.aload_n 0, 1) := by decide +kernel
theorem dX0_weighDays_121 : decode cX0_weighDays 121 = .ok (.iload 5, 2) := by decide +kernel
theorem dX0_weighDays_123 : decode cX0_weighDays 123 = .ok (.invokevirtual 33, 3) := by decide +kernel
theorem dX0_weighDays_126 : decode cX0_weighDays 126 = .ok (.invokestatic 37, 3) := by decide +kernel
theorem dX0_weighDays_129 : decode cX0_weighDays 129 = .ok (.lastore, 1) := by decide +kernel
theorem dX0_weighDays_130 : decode cX0_weighDays 130 = .ok (.iinc 5 1, 3) := by decide +kernel
theorem dX0_weighDays_133 : decode cX0_weighDays 133 = .ok (.goto (-75), 3) := by decide +kernel
theorem dX0_weighDays_136 : decode cX0_weighDays 136 = .ok (.aload_n 0, 1) := by decide +kernel
theorem dX0_weighDays_137 : decode cX0_weighDays 137 = .ok (.invokevirtual 40, 3) := by decide +kernel
theorem dX0_weighDays_140 : decode cX0_weighDays 140 = .ok (.iinc 4 1, 3) := by decide +kernel
theorem dX0_weighDays_143 : decode cX0_weighDays 143 = .ok (.goto (-106), 3) := by decide +kernel
theorem dX0_weighDays_146 : decode cX0_weighDays 146 = .ok (.return_, 1) := by decide +kernel
theorem dX0_paidNow_0 : decode cX0_paidNow 0 = .ok (.bipush 10, 2) := by decide +kernel
theorem dX0_paidNow_2 : decode cX0_paidNow 2 = .ok (.iload_n 1, 1) := by decide +kernel
theorem dX0_paidNow_3 : decode cX0_paidNow 3 = .ok (.isub, 1) := by decide +kernel
theorem dX0_paidNow_4 : decode cX0_paidNow 4 = .ok (.i2l, 1) := by decide +kernel
theorem dX0_paidNow_5 : decode cX0_paidNow 5 = .ok (.aload_n 0, 1) := by decide +kernel
theorem dX0_paidNow_6 : decode cX0_paidNow 6 = .ok (.getfield 18, 3) := by decide +kernel
theorem dX0_paidNow_9 : decode cX0_paidNow 9 = .ok (.lmul, 1) := by decide +kernel
theorem dX0_paidNow_10 : decode cX0_paidNow 10 = .ok (.lreturn, 1) := by decide +kernel
theorem dX0_isSentAtOnce_0 : decode cX0_isSentAtOnce 0 = .ok (.aload_n 0, 1) := by decide +kernel
theorem dX0_isSentAtOnce_1 : decode cX0_isSentAtOnce 1 = .ok (.getfield 9, 3) := by decide +kernel
theorem dX0_isSentAtOnce_4 : decode cX0_isSentAtOnce 4 = .ok (.iload_n 1, 1) := by decide +kernel
theorem dX0_isSentAtOnce_5 : decode cX0_isSentAtOnce 5 = .ok (.laload, 1) := by decide +kernel
theorem dX0_isSentAtOnce_6 : decode cX0_isSentAtOnce 6 = .ok (.aload_n 0, 1) := by decide +kernel
theorem dX0_isSentAtOnce_7 : decode cX0_isSentAtOnce 7 = .ok (.iload_n 1, 1) := by decide +kernel
theorem dX0_isSentAtOnce_8 : decode cX0_isSentAtOnce 8 = .ok (.invokevirtual 33, 3) := by decide +kernel
theorem dX0_isSentAtOnce_11 : decode cX0_isSentAtOnce 11 = .ok (.lcmp, 1) := by decide +kernel
theorem dX0_isSentAtOnce_12 : decode cX0_isSentAtOnce 12 = .ok (.ifCond .ne 7, 3) := by decide +kernel
theorem dX0_isSentAtOnce_15 : decode cX0_isSentAtOnce 15 = .ok (.iconst 1, 1) := by decide +kernel
theorem dX0_isSentAtOnce_16 : decode cX0_isSentAtOnce 16 = .ok (.goto 4, 3) := by decide +kernel
theorem dX0_isSentAtOnce_19 : decode cX0_isSentAtOnce 19 = .ok (.iconst 0, 1) := by decide +kernel
theorem dX0_isSentAtOnce_20 : decode cX0_isSentAtOnce 20 = .ok (.ireturn, 1) := by decide +kernel
theorem dX0_meanFor_0 : decode cX0_meanFor 0 = .ok (.aload_n 0, 1) := by decide +kernel
theorem dX0_meanFor_1 : decode cX0_meanFor 1 = .ok (.aload_n 0, 1) := by decide +kernel
theorem dX0_meanFor_2 : decode cX0_meanFor 2 = .ok (.getfield 9, 3) := by decide +kernel
theorem dX0_meanFor_5 : decode cX0_meanFor 5 = .ok (.iload_n 1, 1) := by decide +kernel
theorem dX0_meanFor_6 : decode cX0_meanFor 6 = .ok (.laload, 1) := by decide +kernel
theorem dX0_meanFor_7 : decode cX0_meanFor 7 = .ok (.iload_n 2, 1) := by decide +kernel
theorem dX0_meanFor_8 : decode cX0_meanFor 8 = .ok (.invokevirtual 43, 3) := by decide +kernel
theorem dX0_meanFor_11 : decode cX0_meanFor 11 = .ok (.lreturn, 1) := by decide +kernel
theorem dX0_spreadDamp_0 : decode cX0_spreadDamp 0 = .ok (.aload_n 0, 1) := by decide +kernel
theorem dX0_spreadDamp_1 : decode cX0_spreadDamp 1 = .ok (.lconst 1, 1) := by decide +kernel
theorem dX0_spreadDamp_2 : decode cX0_spreadDamp 2 = .ok (.putfield 18, 3) := by decide +kernel
theorem dX0_spreadDamp_5 : decode cX0_spreadDamp 5 = .ok (.aload_n 0, 1) := by decide +kernel
theorem dX0_spreadDamp_6 : decode cX0_spreadDamp 6 = .ok (.getfield 9, 3) := by decide +kernel
theorem dX0_spreadDamp_9 : decode cX0_spreadDamp 9 = .ok (.invokestatic 47, 3) := by decide +kernel
theorem dX0_spreadDamp_12 : decode cX0_spreadDamp 12 = .ok (.aload_n 0, 1) := by decide +kernel
theorem dX0_spreadDamp_13 : decode cX0_spreadDamp 13 = .ok (.getfield 9, 3) := by decide +kernel
theorem dX0_spreadDamp_16 : decode cX0_spreadDamp 16 = .ok (.iload_n 1, 1) := by decide +kernel
theorem dX0_spreadDamp_17 : decode cX0_spreadDamp 17 = .ok (.lconst 1, 1) := by decide +kernel
theorem dX0_spreadDamp_18 : decode cX0_spreadDamp 18 = .ok (.lastore, 1) := by decide +kernel
theorem dX0_spreadDamp_19 : decode cX0_spreadDamp 19 = .ok (.iconst 0, 1) := by decide +kernel
theorem dX0_spreadDamp_20 : decode cX0_spreadDamp 20 = .ok (.istore 5, 2) := by decide +kernel
theorem dX0_spreadDamp_22 : decode cX0_spreadDamp 22 = .ok (.iload 5, 2) := by decide +kernel
theorem dX0_spreadDamp_24 : decode cX0_spreadDamp 24 = .ok (.iload_n 3, 1) := by decide +kernel
theorem dX0_spreadDamp_25 : decode cX0_spreadDamp 25 = .ok (.if_icmp .ge 105, 3) := by decide +kernel
theorem dX0_spreadDamp_28 : decode cX0_spreadDamp 28 = .ok (.aload_n 0, 1) := by decide +kernel
theorem dX0_spreadDamp_29 : decode cX0_spreadDamp 29 = .ok (.dup, 1) := by decide +kernel
theorem dX0_spreadDamp_30 : decode cX0_spreadDamp 30 = .ok (.getfield 18, 3) := by decide +kernel
theorem dX0_spreadDamp_33 : decode cX0_spreadDamp 33 = .ok (.ldc2_w 22, 3) := by decide +kernel
theorem dX0_spreadDamp_36 : decode cX0_spreadDamp 36 = .ok (.lmul, 1) := by decide +kernel
theorem dX0_spreadDamp_37 : decode cX0_spreadDamp 37 = .ok (.putfield 18, 3) := by decide +kernel
theorem dX0_spreadDamp_40 : decode cX0_spreadDamp 40 = .ok (.aload_n 0, 1) := by decide +kernel
theorem dX0_spreadDamp_41 : decode cX0_spreadDamp 41 = .ok (.getfield 15, 3) := by decide +kernel
theorem dX0_spreadDamp_44 : decode cX0_spreadDamp 44 = .ok (.invokestatic 47, 3) := by decide +kernel
theorem dX0_spreadDamp_47 : decode cX0_spreadDamp 47 = .ok (.iconst 0, 1) := by decide +kernel
theorem dX0_spreadDamp_48 : decode cX0_spreadDamp 48 = .ok (.istore 6, 2) := by decide +kernel
theorem dX0_spreadDamp_50 : decode cX0_spreadDamp 50 = .ok (.iload 6, 2) := by decide +kernel
theorem dX0_spreadDamp_52 : decode cX0_spreadDamp 52 = .ok (.bipush 20, 2) := by decide +kernel
theorem dX0_spreadDamp_54 : decode cX0_spreadDamp 54 = .ok (.if_icmp .gt 66, 3) := by decide +kernel
theorem dX0_spreadDamp_57 : decode cX0_spreadDamp 57 = .ok (.aload_n 0, 1) := by decide +kernel
theorem dX0_spreadDamp_58 : decode cX0_spreadDamp 58 = .ok (.getfield 15, 3) := by decide +kernel
theorem dX0_spreadDamp_61 : decode cX0_spreadDamp 61 = .ok (.iload 6, 2) := by decide +kernel
theorem dX0_spreadDamp_63 : decode cX0_spreadDamp 63 = .ok (.iload_n 2, 1) := by decide +kernel
theorem dX0_spreadDamp_64 : decode cX0_spreadDamp 64 = .ok (.iadd, 1) := by decide +kernel
theorem dX0_spreadDamp_65 : decode cX0_spreadDamp 65 = .ok (.invokestatic 51, 3) := by decide +kernel
theorem dX0_spreadDamp_68 : decode cX0_spreadDamp 68 = .ok (.dup2, 1) := by decide +kernel
theorem dX0_spreadDamp_69 : decode cX0_spreadDamp 69 = .ok (.laload, 1) := by decide +kernel
theorem dX0_spreadDamp_70 : decode cX0_spreadDamp 70 = .ok (.bipush 10, 2) := by decide +kernel
theorem dX0_spreadDamp_72 : decode cX0_spreadDamp 72 = .ok (.iload 4, 2) := by decide +kernel
theorem dX0_spreadDamp_74 : decode cX0_spreadDamp 74 = .ok (.isub, 1) := by decide +kernel
theorem dX0_spreadDamp_75 : decode cX0_spreadDamp 75 = .ok (.i2l, 1) := by decide +kernel
theorem dX0_spreadDamp_76 : decode cX0_spreadDamp 76 = .ok (.aload_n 0, 1) := by decide +kernel
theorem dX0_spreadDamp_77 : decode cX0_spreadDamp 77 = .ok (.getfield 9, 3) := by decide +kernel
theorem dX0_spreadDamp_80 : decode cX0_spreadDamp 80 = .ok (.iload 6, 2) := by decide +kernel
theorem dX0_spreadDamp_82 : decode cX0_spreadDamp 82 = .ok (.laload, 1) := by decide +kernel
theorem dX0_spreadDamp_83 : decode cX0_spreadDamp 83 = .ok (.lmul, 1) := by decide +kernel
theorem dX0_spreadDamp_84 : decode cX0_spreadDamp 84 = .ok (.ladd, 1) := by decide +kernel
theorem dX0_spreadDamp_85 : decode cX0_spreadDamp 85 = .ok (.lastore, 1) := by decide +kernel
theorem dX0_spreadDamp_86 : decode cX0_spreadDamp 86 = .ok (.aload_n 0, 1) := by decide +kernel
theorem dX0_spreadDamp_87 : decode cX0_spreadDamp 87 = .ok (.getfield 15, 3) := by decide +kernel
theorem dX0_spreadDamp_90 : decode cX0_spreadDamp 90 = .ok (.iload 6, 2) := by decide +kernel
theorem dX0_spreadDamp_92 : decode cX0_spreadDamp 92 = .ok (.iload_n 2, 1) := by decide +kernel
theorem dX0_spreadDamp_93 : decode cX0_spreadDamp 93 = .ok (.iadd, 1) := by decide +kernel
theorem dX0_spreadDamp_94 : decode cX0_spreadDamp 94 = .ok (.iconst 1, 1) := by decide +kernel
theorem dX0_spreadDamp_95 : decode cX0_spreadDamp 95 = .ok (.iadd, 1) := by decide +kernel
theorem dX0_spreadDamp_96 : decode cX0_spreadDamp 96 = .ok (.invokestatic 51, 3) := by decide +kernel
theorem dX0_spreadDamp_99 : decode cX0_spreadDamp 99 = .ok (.dup2, 1) := by decide +kernel
theorem dX0_spreadDamp_100 : decode cX0_spreadDamp 100 = .ok (.laload, 1) := by decide +kernel
theorem dX0_spreadDamp_101 : decode cX0_spreadDamp 101 = .ok (.iload 4, 2) := by decide +kernel
theorem dX0_spreadDamp_103 : decode cX0_spreadDamp 103 = .ok (.i2l, 1) := by decide +kernel
theorem dX0_spreadDamp_104 : decode cX0_spreadDamp 104 = .ok (.aload_n 0, 1) := by decide +kernel
theorem dX0_spreadDamp_105 : decode cX0_spreadDamp 105 = .ok (.getfield 9, 3) := by decide +kernel
theorem dX0_spreadDamp_108 : decode cX0_spreadDamp 108 = .ok (.iload 6, 2) := by decide +kernel
theorem dX0_spreadDamp_110 : decode cX0_spreadDamp 110 = .ok (.laload, 1) := by decide +kernel
theorem dX0_spreadDamp_111 : decode cX0_spreadDamp 111 = .ok (.lmul, 1) := by decide +kernel
theorem dX0_spreadDamp_112 : decode cX0_spreadDamp 112 = .ok (.ladd, 1) := by decide +kernel
theorem dX0_spreadDamp_113 : decode cX0_spreadDamp 113 = .ok (.lastore, 1) := by decide +kernel
theorem dX0_spreadDamp_114 : decode cX0_spreadDamp 114 = .ok (.iinc 6 1, 3) := by decide +kernel
theorem dX0_spreadDamp_117 : decode cX0_spreadDamp 117 = .ok (.goto (-67), 3) := by decide +kernel
theorem dX0_spreadDamp_120 : decode cX0_spreadDamp 120 = .ok (.aload_n 0, 1) := by decide +kernel
theorem dX0_spreadDamp_121 : decode cX0_spreadDamp 121 = .ok (.invokevirtual 40, 3) := by decide +kernel
theorem dX0_spreadDamp_124 : decode cX0_spreadDamp 124 = .ok (.iinc 5 1, 3) := by decide +kernel
theorem dX0_spreadDamp_127 : decode cX0_spreadDamp 127 = .ok (.goto (-105), 3) := by decide +kernel
theorem dX0_spreadDamp_130 : decode cX0_spreadDamp 130 = .ok (.return_, 1) := by decide +kernel
theorem dX0_atMost_0 : decode cX0_atMost 0 = .ok (.lconst 0, 1) := by decide +kernel
theorem dX0_atMost_1 : decode cX0_atMost 1 = .ok (.lstore_n 3, 1) := by decide +kernel
theorem dX0_atMost_2 : decode cX0_atMost 2 = .ok (.iconst 0, 1) := by decide +kernel
theorem dX0_atMost_3 : decode cX0_atMost 3 = .ok (.istore 5, 2) := by decide +kernel
theorem dX0_atMost_5 : decode cX0_atMost 5 = .ok (.iload 5, 2) := by decide +kernel
theorem dX0_atMost_7 : decode cX0_atMost 7 = .ok (.iload_n 1, 1) := by decide +kernel
theorem dX0_atMost_8 : decode cX0_atMost 8 = .ok (.if_icmp .gt 19, 3) := by decide +kernel
theorem dX0_atMost_11 : decode cX0_atMost 11 = .ok (.lload_n 3, 1) := by decide +kernel
theorem dX0_atMost_12 : decode cX0_atMost 12 = .ok (.aload_n 0, 1) := by decide +kernel
theorem dX0_atMost_13 : decode cX0_atMost 13 = .ok (.getfield 9, 3) := by decide +kernel
theorem dX0_atMost_16 : decode cX0_atMost 16 = .ok (.iload 5, 2) := by decide +kernel
theorem dX0_atMost_18 : decode cX0_atMost 18 = .ok (.laload, 1) := by decide +kernel
theorem dX0_atMost_19 : decode cX0_atMost 19 = .ok (.ladd, 1) := by decide +kernel
theorem dX0_atMost_20 : decode cX0_atMost 20 = .ok (.lstore_n 3, 1) := by decide +kernel
theorem dX0_atMost_21 : decode cX0_atMost 21 = .ok (.iinc 5 1, 3) := by decide +kernel
theorem dX0_atMost_24 : decode cX0_atMost 24 = .ok (.goto (-19), 3) := by decide +kernel
theorem dX0_atMost_27 : decode cX0_atMost 27 = .ok (.aload_n 0, 1) := by decide +kernel
theorem dX0_atMost_28 : decode cX0_atMost 28 = .ok (.lload_n 3, 1) := by decide +kernel
theorem dX0_atMost_29 : decode cX0_atMost 29 = .ok (.iload_n 2, 1) := by decide +kernel
theorem dX0_atMost_30 : decode cX0_atMost 30 = .ok (.invokevirtual 43, 3) := by decide +kernel
theorem dX0_atMost_33 : decode cX0_atMost 33 = .ok (.lreturn, 1) := by decide +kernel
theorem dX0_swapRows_0 : decode cX0_swapRows 0 = .ok (.aload_n 0, 1) := by decide +kernel
theorem dX0_swapRows_1 : decode cX0_swapRows 1 = .ok (.getfield 9, 3) := by decide +kernel
theorem dX0_swapRows_4 : decode cX0_swapRows 4 = .ok (.astore_n 1, 1) := by decide +kernel
theorem dX0_swapRows_5 : decode cX0_swapRows 5 = .ok (.aload_n 0, 1) := by decide +kernel
theorem dX0_swapRows_6 : decode cX0_swapRows 6 = .ok (.aload_n 0, 1) := by decide +kernel
theorem dX0_swapRows_7 : decode cX0_swapRows 7 = .ok (.getfield 15, 3) := by decide +kernel
theorem dX0_swapRows_10 : decode cX0_swapRows 10 = .ok (.putfield 9, 3) := by decide +kernel
theorem dX0_swapRows_13 : decode cX0_swapRows 13 = .ok (.aload_n 0, 1) := by decide +kernel
theorem dX0_swapRows_14 : decode cX0_swapRows 14 = .ok (.aload_n 1, 1) := by decide +kernel
theorem dX0_swapRows_15 : decode cX0_swapRows 15 = .ok (.putfield 15, 3) := by decide +kernel
theorem dX0_swapRows_18 : decode cX0_swapRows 18 = .ok (.return_, 1) := by decide +kernel
theorem dX0_clearRow_0 : decode cX0_clearRow 0 = .ok (.iconst 0, 1) := by decide +kernel
theorem dX0_clearRow_1 : decode cX0_clearRow 1 = .ok (.istore_n 1, 1) := by decide +kernel
theorem dX0_clearRow_2 : decode cX0_clearRow 2 = .ok (.iload_n 1, 1) := by decide +kernel
theorem dX0_clearRow_3 : decode cX0_clearRow 3 = .ok (.aload_n 0, 1) := by decide +kernel
theorem dX0_clearRow_4 : decode cX0_clearRow 4 = .ok (.arraylength, 1) := by decide +kernel
theorem dX0_clearRow_5 : decode cX0_clearRow 5 = .ok (.if_icmp .ge 13, 3) := by decide +kernel
theorem dX0_clearRow_8 : decode cX0_clearRow 8 = .ok (.aload_n 0, 1) := by decide +kernel
theorem dX0_clearRow_9 : decode cX0_clearRow 9 = .ok (.iload_n 1, 1) := by decide +kernel
theorem dX0_clearRow_10 : decode cX0_clearRow 10 = .ok (.lconst 0, 1) := by decide +kernel
theorem dX0_clearRow_11 : decode cX0_clearRow 11 = .ok (.lastore, 1) := by decide +kernel
theorem dX0_clearRow_12 : decode cX0_clearRow 12 = .ok (.iinc 1 1, 3) := by decide +kernel
theorem dX0_clearRow_15 : decode cX0_clearRow 15 = .ok (.goto (-13), 3) := by decide +kernel
theorem dX0_clearRow_18 : decode cX0_clearRow 18 = .ok (.return_, 1) := by decide +kernel
theorem dX0_partOf_0 : decode cX0_partOf 0 = .ok (.lload_n 1, 1) := by decide +kernel
theorem dX0_partOf_1 : decode cX0_partOf 1 = .ok (.invokestatic 55, 3) := by decide +kernel
theorem dX0_partOf_4 : decode cX0_partOf 4 = .ok (.aload_n 0, 1) := by decide +kernel
theorem dX0_partOf_5 : decode cX0_partOf 5 = .ok (.getfield 18, 3) := by decide +kernel
theorem dX0_partOf_8 : decode cX0_partOf 8 = .ok (.invokestatic 59, 3) := by decide +kernel
theorem dX0_partOf_11 : decode cX0_partOf 11 = .ok (.lstore 4, 2) := by decide +kernel
theorem dX0_partOf_13 : decode cX0_partOf 13 = .ok (.lload 4, 2) := by decide +kernel
theorem dX0_partOf_15 : decode cX0_partOf 15 = .ok (.lconst 1, 1) := by decide +kernel
theorem dX0_partOf_16 : decode cX0_partOf 16 = .ok (.lcmp, 1) := by decide +kernel
theorem dX0_partOf_17 : decode cX0_partOf 17 = .ok (.ifCond .ge 5, 3) := by decide +kernel
theorem dX0_partOf_20 : decode cX0_partOf 20 = .ok (.lconst 0, 1) := by decide +kernel
theorem dX0_partOf_21 : decode cX0_partOf 21 = .ok (.lreturn, 1) := by decide +kernel
theorem dX0_partOf_22 : decode cX0_partOf 22 = .ok (.iload_n 3, 1) := by decide +kernel
theorem dX0_partOf_23 : decode cX0_partOf 23 = .ok (.ifCond .ne 10, 3) := by decide +kernel
theorem dX0_partOf_26 : decode cX0_partOf 26 = .ok (.lload_n 1, 1) := by decide +kernel
theorem dX0_partOf_27 : decode cX0_partOf 27 = .ok (.lload 4, 2) := by decide +kernel
theorem dX0_partOf_29 : decode cX0_partOf 29 = .ok (.ldiv, 1) := by decide +kernel
theorem dX0_partOf_30 : decode cX0_partOf 30 = .ok (.goto 10, 3) := by decide +kernel
theorem dX0_partOf_33 : decode cX0_partOf 33 = .ok (.aload_n 0, 1) := by decide +kernel
theorem dX0_partOf_34 : decode cX0_partOf 34 = .ok (.getfield 18, 3) := by decide +kernel
theorem dX0_partOf_37 : decode cX0_partOf 37 = .ok (.lload 4, 2) := by decide +kernel
theorem dX0_partOf_39 : decode cX0_partOf 39 = .ok (.ldiv, 1) := by decide +kernel
theorem dX0_partOf_40 : decode cX0_partOf 40 = .ok (.lreturn, 1) := by decide +kernel
theorem dX0_commonDivisor_0 : decode cX0_commonDivisor 0 = .ok (.lload_n 0, 1) := by decide +kernel
theorem dX0_commonDivisor_1 : decode cX0_commonDivisor 1 = .ok (.lstore 4, 2) := by decide +kernel
theorem dX0_commonDivisor_3 : decode cX0_commonDivisor 3 = .ok (.lload_n 2, 1) := by decide +kernel
theorem dX0_commonDivisor_4 : decode cX0_commonDivisor 4 = .ok (.lstore 6, 2) := by decide +kernel
theorem dX0_commonDivisor_6 : decode cX0_commonDivisor 6 = .ok (.iconst 0, 1) := by decide +kernel
theorem dX0_commonDivisor_7 : decode cX0_commonDivisor 7 = .ok (.istore 8, 2) := by decide +kernel
theorem dX0_commonDivisor_9 : decode cX0_commonDivisor 9 = .ok (.iload 8, 2) := by decide +kernel
theorem dX0_commonDivisor_11 : decode cX0_commonDivisor 11 = .ok (.bipush 100, 2) := by decide +kernel
theorem dX0_commonDivisor_13 : decode cX0_commonDivisor 13 = .ok (.if_icmp .ge 31, 3) := by decide +kernel
theorem dX0_commonDivisor_16 : decode cX0_commonDivisor 16 = .ok (.lload 6, 2) := by decide +kernel
theorem dX0_commonDivisor_18 : decode cX0_commonDivisor 18 = .ok (.lconst 0, 1) := by decide +kernel
theorem dX0_commonDivisor_19 : decode cX0_commonDivisor 19 = .ok (.lcmp, 1) := by decide +kernel
theorem dX0_commonDivisor_20 : decode cX0_commonDivisor 20 = .ok (.ifCond .eq 24, 3) := by decide +kernel
theorem dX0_commonDivisor_23 : decode cX0_commonDivisor 23 = .ok (.lload 4, 2) := by decide +kernel
theorem dX0_commonDivisor_25 : decode cX0_commonDivisor 25 = .ok (.lload 6, 2) := by decide +kernel
theorem dX0_commonDivisor_27 : decode cX0_commonDivisor 27 = .ok (.lrem, 1) := by decide +kernel
theorem dX0_commonDivisor_28 : decode cX0_commonDivisor 28 = .ok (.lstore 9, 2) := by decide +kernel
theorem dX0_commonDivisor_30 : decode cX0_commonDivisor 30 = .ok (.lload 6, 2) := by decide +kernel
theorem dX0_commonDivisor_32 : decode cX0_commonDivisor 32 = .ok (.lstore 4, 2) := by decide +kernel
theorem dX0_commonDivisor_34 : decode cX0_commonDivisor 34 = .ok (.lload 9, 2) := by decide +kernel
theorem dX0_commonDivisor_36 : decode cX0_commonDivisor 36 = .ok (.lstore 6, 2) := by decide +kernel
theorem dX0_commonDivisor_38 : decode cX0_commonDivisor 38 = .ok (.iinc 8 1, 3) := by decide +kernel
theorem dX0_commonDivisor_41 : decode cX0_commonDivisor 41 = .ok (.goto (-32), 3) := by decide +kernel
theorem dX0_commonDivisor_44 : decode cX0_commonDivisor 44 = .ok (.lload 4, 2) := by decide +kernel
theorem dX0_commonDivisor_46 : decode cX0_commonDivisor 46 = .ok (.lreturn, 1) := by decide +kernel
theorem dX1_init_0 : decode cX1_init 0 = .ok (.aload_n 0, 1) := by decide +kernel
theorem dX1_init_1 : decode cX1_init 1 = .ok (.invokespecial 3, 3) := by decide +kernel
theorem dX1_init_4 : decode cX1_init 4 = .ok (.aload_n 0, 1) := by decide +kernel
theorem dX1_init_5 : decode cX1_init 5 = .ok (.bipush 18, 2) := by decide +kernel
theorem dX1_init_7 : decode cX1_init 7 = .ok (.newarray .int, 2) := by decide +kernel
theorem dX1_init_9 : decode cX1_init 9 = .ok (.putfield 9, 3) := by decide +kernel
theorem dX1_init_12 : decode cX1_init 12 = .ok (.aload_n 0, 1) := by decide +kernel
theorem dX1_init_13 : decode cX1_init 13 = .ok (.bipush 6, 2) := by decide +kernel
theorem dX1_init_15 : decode cX1_init 15 = .ok (.newarray .int, 2) := by decide +kernel
theorem dX1_init_17 : decode cX1_init 17 = .ok (.putfield 15, 3) := by decide +kernel
theorem dX1_init_20 : decode cX1_init 20 = .ok (.aload_n 0, 1) := by decide +kernel
theorem dX1_init_21 : decode cX1_init 21 = .ok (.bipush 12, 2) := by decide +kernel
theorem dX1_init_23 : decode cX1_init 23 = .ok (.newarray .int, 2) := by decide +kernel
theorem dX1_init_25 : decode cX1_init 25 = .ok (.putfield 18, 3) := by decide +kernel
theorem dX1_init_28 : decode cX1_init 28 = .ok (.aload_n 0, 1) := by decide +kernel
theorem dX1_init_29 : decode cX1_init 29 = .ok (.bipush 36, 2) := by decide +kernel
theorem dX1_init_31 : decode cX1_init 31 = .ok (.newarray .int, 2) := by decide +kernel
theorem dX1_init_33 : decode cX1_init 33 = .ok (.putfield 21, 3) := by decide +kernel
theorem dX1_init_36 : decode cX1_init 36 = .ok (.aload_n 0, 1) := by decide +kernel
theorem dX1_init_37 : decode cX1_init 37 = .ok (.bipush 6, 2) := by decide +kernel
theorem dX1_init_39 : decode cX1_init 39 = .ok (.newarray .int, 2) := by decide +kernel
theorem dX1_init_41 : decode cX1_init 41 = .ok (.putfield 24, 3) := by decide +kernel
theorem dX1_init_44 : decode cX1_init 44 = .ok (.aload_n 0, 1) := by decide +kernel
theorem dX1_init_45 : decode cX1_init 45 = .ok (.new 27, 3) := by decide +kernel
theorem dX1_init_48 : decode cX1_init 48 = .ok (.dup, 1) := by decide +kernel
theorem dX1_init_49 : decode cX1_init 49 = .ok (.invokespecial 29, 3) := by decide +kernel
theorem dX1_init_52 : decode cX1_init 52 = .ok (.putfield 30, 3) := by decide +kernel
theorem dX1_init_55 : decode cX1_init 55 = .ok (.return_, 1) := by decide +kernel
theorem dX1_takeFrom_0 : decode cX1_takeFrom 0 = .ok (.aload_n 0, 1) := by decide +kernel
theorem dX1_takeFrom_1 : decode cX1_takeFrom 1 = .ok (.aload_n 1, 1) := by decide +kernel
theorem dX1_takeFrom_2 : decode cX1_takeFrom 2 = .ok (.getfield 34, 3) := by decide +kernel
theorem dX1_takeFrom_5 : decode cX1_takeFrom 5 = .ok (.putfield 34, 3) := by decide +kernel
theorem dX1_takeFrom_8 : decode cX1_takeFrom 8 = .ok (.aload_n 0, 1) := by decide +kernel
theorem dX1_takeFrom_9 : decode cX1_takeFrom 9 = .ok (.aload_n 1, 1) := by decide +kernel
theorem dX1_takeFrom_10 : decode cX1_takeFrom 10 = .ok (.getfield 38, 3) := by decide +kernel
theorem dX1_takeFrom_13 : decode cX1_takeFrom 13 = .ok (.putfield 38, 3) := by decide +kernel
theorem dX1_takeFrom_16 : decode cX1_takeFrom 16 = .ok (.aload_n 0, 1) := by decide +kernel
theorem dX1_takeFrom_17 : decode cX1_takeFrom 17 = .ok (.aload_n 1, 1) := by decide +kernel
theorem dX1_takeFrom_18 : decode cX1_takeFrom 18 = .ok (.getfield 41, 3) := by decide +kernel
theorem dX1_takeFrom_21 : decode cX1_takeFrom 21 = .ok (.putfield 41, 3) := by decide +kernel
theorem dX1_takeFrom_24 : decode cX1_takeFrom 24 = .ok (.aload_n 1, 1) := by decide +kernel
theorem dX1_takeFrom_25 : decode cX1_takeFrom 25 = .ok (.getfield 9, 3) := by decide +kernel
theorem dX1_takeFrom_28 : decode cX1_takeFrom 28 = .ok (.iconst 0, 1) := by decide +kernel
theorem dX1_takeFrom_29 : decode cX1_takeFrom 29 = .ok (.aload_n 0, 1) := by decide +kernel
theorem dX1_takeFrom_30 : decode cX1_takeFrom 30 = .ok (.getfield 9, 3) := by decide +kernel
theorem dX1_takeFrom_33 : decode cX1_takeFrom 33 = .ok (.iconst 0, 1) := by decide +kernel
theorem dX1_takeFrom_34 : decode cX1_takeFrom 34 = .ok (.bipush 18, 2) := by decide +kernel
theorem dX1_takeFrom_36 : decode cX1_takeFrom 36 = .ok (.invokestatic 44, 3) := by decide +kernel
theorem dX1_takeFrom_39 : decode cX1_takeFrom 39 = .ok (.aload_n 1, 1) := by decide +kernel
theorem dX1_takeFrom_40 : decode cX1_takeFrom 40 = .ok (.getfield 15, 3) := by decide +kernel
theorem dX1_takeFrom_43 : decode cX1_takeFrom 43 = .ok (.iconst 0, 1) := by decide +kernel
theorem dX1_takeFrom_44 : decode cX1_takeFrom 44 = .ok (.aload_n 0, 1) := by decide +kernel
theorem dX1_takeFrom_45 : decode cX1_takeFrom 45 = .ok (.getfield 15, 3) := by decide +kernel
theorem dX1_takeFrom_48 : decode cX1_takeFrom 48 = .ok (.iconst 0, 1) := by decide +kernel
theorem dX1_takeFrom_49 : decode cX1_takeFrom 49 = .ok (.bipush 6, 2) := by decide +kernel
theorem dX1_takeFrom_51 : decode cX1_takeFrom 51 = .ok (.invokestatic 44, 3) := by decide +kernel
theorem dX1_takeFrom_54 : decode cX1_takeFrom 54 = .ok (.aload_n 1, 1) := by decide +kernel
theorem dX1_takeFrom_55 : decode cX1_takeFrom 55 = .ok (.getfield 18, 3) := by decide +kernel
theorem dX1_takeFrom_58 : decode cX1_takeFrom 58 = .ok (.iconst 0, 1) := by decide +kernel
theorem dX1_takeFrom_59 : decode cX1_takeFrom 59 = .ok (.aload_n 0, 1) := by decide +kernel
theorem dX1_takeFrom_60 : decode cX1_takeFrom 60 = .ok (.getfield 18, 3) := by decide +kernel
theorem dX1_takeFrom_63 : decode cX1_takeFrom 63 = .ok (.iconst 0, 1) := by decide +kernel
theorem dX1_takeFrom_64 : decode cX1_takeFrom 64 = .ok (.bipush 12, 2) := by decide +kernel
theorem dX1_takeFrom_66 : decode cX1_takeFrom 66 = .ok (.invokestatic 44, 3) := by decide +kernel
theorem dX1_takeFrom_69 : decode cX1_takeFrom 69 = .ok (.aload_n 1, 1) := by decide +kernel
theorem dX1_takeFrom_70 : decode cX1_takeFrom 70 = .ok (.getfield 21, 3) := by decide +kernel
theorem dX1_takeFrom_73 : decode cX1_takeFrom 73 = .ok (.iconst 0, 1) := by decide +kernel
theorem dX1_takeFrom_74 : decode cX1_takeFrom 74 = .ok (.aload_n 0, 1) := by decide +kernel
theorem dX1_takeFrom_75 : decode cX1_takeFrom 75 = .ok (.getfield 21, 3) := by decide +kernel
theorem dX1_takeFrom_78 : decode cX1_takeFrom 78 = .ok (.iconst 0, 1) := by decide +kernel
theorem dX1_takeFrom_79 : decode cX1_takeFrom 79 = .ok (.bipush 36, 2) := by decide +kernel
theorem dX1_takeFrom_81 : decode cX1_takeFrom 81 = .ok (.invokestatic 44, 3) := by decide +kernel
theorem dX1_takeFrom_84 : decode cX1_takeFrom 84 = .ok (.aload_n 1, 1) := by decide +kernel
theorem dX1_takeFrom_85 : decode cX1_takeFrom 85 = .ok (.getfield 24, 3) := by decide +kernel
theorem dX1_takeFrom_88 : decode cX1_takeFrom 88 = .ok (.iconst 0, 1) := by decide +kernel
theorem dX1_takeFrom_89 : decode cX1_takeFrom 89 = .ok (.aload_n 0, 1) := by decide +kernel
theorem dX1_takeFrom_90 : decode cX1_takeFrom 90 = .ok (.getfield 24, 3) := by decide +kernel
theorem dX1_takeFrom_93 : decode cX1_takeFrom 93 = .ok (.iconst 0, 1) := by decide +kernel
theorem dX1_takeFrom_94 : decode cX1_takeFrom 94 = .ok (.bipush 6, 2) := by decide +kernel
theorem dX1_takeFrom_96 : decode cX1_takeFrom 96 = .ok (.invokestatic 44, 3) := by decide +kernel
theorem dX1_takeFrom_99 : decode cX1_takeFrom 99 = .ok (.aload_n 0, 1) := by decide +kernel
theorem dX1_takeFrom_100 : decode cX1_takeFrom 100 = .ok (.getfield 30, 3) := by decide +kernel
theorem dX1_takeFrom_103 : decode cX1_takeFrom 103 = .ok (.aload_n 1, 1) := by decide +kernel
theorem dX1_takeFrom_104 : decode cX1_takeFrom 104 = .ok (.getfield 30, 3) := by decide +kernel
theorem dX1_takeFrom_107 : decode cX1_takeFrom 107 = .ok (.invokevirtual 50, 3) := by decide +kernel
theorem dX1_takeFrom_110 : decode cX1_takeFrom 110 = .ok (.return_, 1) := by decide +kernel
theorem dX1_isThere_0 : decode cX1_isThere 0 = .ok (.iload_n 1, 1) := by decide +kernel
theorem dX1_isThere_1 : decode cX1_isThere 1 = .ok (.ifCond .lt 25, 3) := by decide +kernel
theorem dX1_isThere_4 : decode cX1_isThere 4 = .ok (.iload_n 1, 1) := by decide +kernel
theorem dX1_isThere_5 : decode cX1_isThere 5 = .ok (.bipush 6, 2) := by decide +kernel
theorem dX1_isThere_7 : decode cX1_isThere 7 = .ok (.if_icmp .ge 19, 3) := by decide +kernel
theorem dX1_isThere_10 : decode cX1_isThere 10 = .ok (.aload_n 0, 1) := by decide +kernel
theorem dX1_isThere_11 : decode cX1_isThere 11 = .ok (.getfield 34, 3) := by decide +kernel
theorem dX1_isThere_14 : decode cX1_isThere 14 = .ok (.iload_n 1, 1) := by decide +kernel
theorem dX1_isThere_15 : decode cX1_isThere 15 = .ok (.ishr, 1) := by decide +kernel
theorem dX1_isThere_16 : decode cX1_isThere 16 = .ok (.iconst 1, 1) := by decide +kernel
theorem dX1_isThere_17 : decode cX1_isThere 17 = .ok (.iand, 1) := by decide +kernel
theorem dX1_isThere_18 : decode cX1_isThere 18 = .ok (.iconst 1, 1) := by decide +kernel
theorem dX1_isThere_19 : decode cX1_isThere 19 = .ok (.if_icmp .ne 7, 3) := by decide +kernel
theorem dX1_isThere_22 : decode cX1_isThere 22 = .ok (.iconst 1, 1) := by decide +kernel
theorem dX1_isThere_23 : decode cX1_isThere 23 = .ok (.goto 4, 3) := by decide +kernel
theorem dX1_isThere_26 : decode cX1_isThere 26 = .ok (.iconst 0, 1) := by decide +kernel
theorem dX1_isThere_27 : decode cX1_isThere 27 = .ok (.ireturn, 1) := by decide +kernel
theorem dX1_isSatIn_0 : decode cX1_isSatIn 0 = .ok (.aload_n 0, 1) := by decide +kernel
theorem dX1_isSatIn_1 : decode cX1_isSatIn 1 = .ok (.getfield 38, 3) := by decide +kernel
theorem dX1_isSatIn_4 : decode cX1_isSatIn 4 = .ok (.iload_n 1, 1) := by decide +kernel
theorem dX1_isSatIn_5 : decode cX1_isSatIn 5 = .ok (.ishr, 1) := by decide +kernel
theorem dX1_isSatIn_6 : decode cX1_isSatIn 6 = .ok (.iconst 1, 1) := by decide +kernel
theorem dX1_isSatIn_7 : decode cX1_isSatIn 7 = .ok (.iand, 1) := by decide +kernel
theorem dX1_isSatIn_8 : decode cX1_isSatIn 8 = .ok (.iconst 1, 1) := by decide +kernel
theorem dX1_isSatIn_9 : decode cX1_isSatIn 9 = .ok (.if_icmp .ne 7, 3) := by decide +kernel
theorem dX1_isSatIn_12 : decode cX1_isSatIn 12 = .ok (.iconst 1, 1) := by decide +kernel
theorem dX1_isSatIn_13 : decode cX1_isSatIn 13 = .ok (.goto 4, 3) := by decide +kernel
theorem dX1_isSatIn_16 : decode cX1_isSatIn 16 = .ok (.iconst 0, 1) := by decide +kernel
theorem dX1_isSatIn_17 : decode cX1_isSatIn 17 = .ok (.ireturn, 1) := by decide +kernel
theorem dX1_house5_0 : decode cX1_house5 0 = .ok (.aload_n 0, 1) := by decide +kernel
theorem dX1_house5_1 : decode cX1_house5 1 = .ok (.dup, 1) := by decide +kernel
theorem dX1_house5_2 : decode cX1_house5 2 = .ok (.getfield 34, 3) := by decide +kernel
theorem dX1_house5_5 : decode cX1_house5 5 = .ok (.iconst 1, 1) := by decide +kernel
theorem dX1_house5_6 : decode cX1_house5 6 = .ok (.iload_n 1, 1) := by decide +kernel
theorem dX1_house5_7 : decode cX1_house5 7 = .ok (.ishl, 1) := by decide +kernel
theorem dX1_house5_8 : decode cX1_house5 8 = .ok (.ior, 1) := by decide +kernel
theorem dX1_house5_9 : decode cX1_house5 9 = .ok (.putfield 34, 3) := by decide +kernel
theorem dX1_house5_12 : decode cX1_house5 12 = .ok (.aload_n 0, 1) := by decide +kernel
theorem dX1_house5_13 : decode cX1_house5 13 = .ok (.dup, 1) := by decide +kernel
theorem dX1_house5_14 : decode cX1_house5 14 = .ok (.getfield 38, 3) := by decide +kernel
theorem dX1_house5_17 : decode cX1_house5 17 = .ok (.iconst 1, 1) := by decide +kernel
theorem dX1_house5_18 : decode cX1_house5 18 = .ok (.iload_n 1, 1) := by decide +kernel
theorem dX1_house5_19 : decode cX1_house5 19 = .ok (.ishl, 1) := by decide +kernel
theorem dX1_house5_20 : decode cX1_house5 20 = .ok (.iconst (-1), 1) := by decide +kernel
theorem dX1_house5_21 : decode cX1_house5 21 = .ok (.ixor, 1) := by decide +kernel
theorem dX1_house5_22 : decode cX1_house5 22 = .ok (.iand, 1) := by decide +kernel
theorem dX1_house5_23 : decode cX1_house5 23 = .ok (.putfield 38, 3) := by decide +kernel
theorem dX1_house5_26 : decode cX1_house5 26 = .ok (.aload_n 0, 1) := by decide +kernel
theorem dX1_house5_27 : decode cX1_house5 27 = .ok (.getfield 15, 3) := by decide +kernel
theorem dX1_house5_30 : decode cX1_house5 30 = .ok (.iload_n 1, 1) := by decide +kernel
theorem dX1_house5_31 : decode cX1_house5 31 = .ok (.iconst 0, 1) := by decide +kernel
theorem dX1_house5_32 : decode cX1_house5 32 = .ok (.iastore, 1) := by decide +kernel
theorem dX1_house5_33 : decode cX1_house5 33 = .ok (.aload_n 0, 1) := by decide +kernel
theorem dX1_house5_34 : decode cX1_house5 34 = .ok (.getfield 9, 3) := by decide +kernel
theorem dX1_house5_37 : decode cX1_house5 37 = .ok (.iload_n 1, 1) := by decide +kernel
theorem dX1_house5_38 : decode cX1_house5 38 = .ok (.iconst 3, 1) := by decide +kernel
theorem dX1_house5_39 : decode cX1_house5 39 = .ok (.imul, 1) := by decide +kernel
theorem dX1_house5_40 : decode cX1_house5 40 = .ok (.iconst 0, 1) := by decide +kernel
theorem dX1_house5_41 : decode cX1_house5 41 = .ok (.iadd, 1) := by decide +kernel
theorem dX1_house5_42 : decode cX1_house5 42 = .ok (.iload_n 2, 1) := by decide +kernel
theorem dX1_house5_43 : decode cX1_house5 43 = .ok (.iastore, 1) := by decide +kernel
theorem dX1_house5_44 : decode cX1_house5 44 = .ok (.aload_n 0, 1) := by decide +kernel
theorem dX1_house5_45 : decode cX1_house5 45 = .ok (.getfield 9, 3) := by decide +kernel
theorem dX1_house5_48 : decode cX1_house5 48 = .ok (.iload_n 1, 1) := by decide +kernel
theorem dX1_house5_49 : decode cX1_house5 49 = .ok (.iconst 3, 1) := by decide +kernel
theorem dX1_house5_50 : decode cX1_house5 50 = .ok (.imul, 1) := by decide +kernel
theorem dX1_house5_51 : decode cX1_house5 51 = .ok (.iconst 1, 1) := by decide +kernel
theorem dX1_house5_52 : decode cX1_house5 52 = .ok (.iadd, 1) := by decide +kernel
theorem dX1_house5_53 : decode cX1_house5 53 = .ok (.iload_n 3, 1) := by decide +kernel
theorem dX1_house5_54 : decode cX1_house5 54 = .ok (.iastore, 1) := by decide +kernel
theorem dX1_house5_55 : decode cX1_house5 55 = .ok (.aload_n 0, 1) := by decide +kernel
theorem dX1_house5_56 : decode cX1_house5 56 = .ok (.getfield 9, 3) := by decide +kernel
theorem dX1_house5_59 : decode cX1_house5 59 = .ok (.iload_n 1, 1) := by decide +kernel
theorem dX1_house5_60 : decode cX1_house5 60 = .ok (.iconst 3, 1) := by decide +kernel
theorem dX1_house5_61 : decode cX1_house5 61 = .ok (.imul, 1) := by decide +kernel
theorem dX1_house5_62 : decode cX1_house5 62 = .ok (.iconst 2, 1) := by decide +kernel
theorem dX1_house5_63 : decode cX1_house5 63 = .ok (.iadd, 1) := by decide +kernel
theorem dX1_house5_64 : decode cX1_house5 64 = .ok (.iload 4, 2) := by decide +kernel
theorem dX1_house5_66 : decode cX1_house5 66 = .ok (.iastore, 1) := by decide +kernel
theorem dX1_house5_67 : decode cX1_house5 67 = .ok (.return_, 1) := by decide +kernel
theorem dX1_send_0 : decode cX1_send 0 = .ok (.aload_n 0, 1) := by decide +kernel
theorem dX1_send_1 : decode cX1_send 1 = .ok (.dup, 1) := by decide +kernel
theorem dX1_send_2 : decode cX1_send 2 = .ok (.getfield 34, 3) := by decide +kernel
theorem dX1_send_5 : decode cX1_send 5 = .ok (.iconst 1, 1) := by decide +kernel
theorem dX1_send_6 : decode cX1_send 6 = .ok (.iload_n 1, 1) := by decide +kernel
theorem dX1_send_7 : decode cX1_send 7 = .ok (.ishl, 1) := by decide +kernel
theorem dX1_send_8 : decode cX1_send 8 = .ok (.iconst (-1), 1) := by decide +kernel
theorem dX1_send_9 : decode cX1_send 9 = .ok (.ixor, 1) := by decide +kernel
theorem dX1_send_10 : decode cX1_send 10 = .ok (.iand, 1) := by decide +kernel
theorem dX1_send_11 : decode cX1_send 11 = .ok (.putfield 34, 3) := by decide +kernel
theorem dX1_send_14 : decode cX1_send 14 = .ok (.aload_n 0, 1) := by decide +kernel
theorem dX1_send_15 : decode cX1_send 15 = .ok (.dup, 1) := by decide +kernel
theorem dX1_send_16 : decode cX1_send 16 = .ok (.getfield 38, 3) := by decide +kernel
theorem dX1_send_19 : decode cX1_send 19 = .ok (.iconst 1, 1) := by decide +kernel
theorem dX1_send_20 : decode cX1_send 20 = .ok (.iload_n 1, 1) := by decide +kernel
theorem dX1_send_21 : decode cX1_send 21 = .ok (.ishl, 1) := by decide +kernel
theorem dX1_send_22 : decode cX1_send 22 = .ok (.iconst (-1), 1) := by decide +kernel
theorem dX1_send_23 : decode cX1_send 23 = .ok (.ixor, 1) := by decide +kernel
theorem dX1_send_24 : decode cX1_send 24 = .ok (.iand, 1) := by decide +kernel
theorem dX1_send_25 : decode cX1_send 25 = .ok (.putfield 38, 3) := by decide +kernel
theorem dX1_send_28 : decode cX1_send 28 = .ok (.return_, 1) := by decide +kernel
theorem dX1_illOf_0 : decode cX1_illOf 0 = .ok (.aload_n 0, 1) := by decide +kernel
theorem dX1_illOf_1 : decode cX1_illOf 1 = .ok (.getfield 9, 3) := by decide +kernel
theorem dX1_illOf_4 : decode cX1_illOf 4 = .ok (.iload_n 1, 1) := by decide +kernel
theorem dX1_illOf_5 : decode cX1_illOf 5 = .ok (.iconst 3, 1) := by decide +kernel
theorem dX1_illOf_6 : decode cX1_illOf 6 = .ok (.imul, 1) := by decide +kernel
theorem dX1_illOf_7 : decode cX1_illOf 7 = .ok (.iload_n 2, 1) := by decide +kernel
theorem dX1_illOf_8 : decode cX1_illOf 8 = .ok (.iadd, 1) := by decide +kernel
theorem dX1_illOf_9 : decode cX1_illOf 9 = .ok (.iaload, 1) := by decide +kernel
theorem dX1_illOf_10 : decode cX1_illOf 10 = .ok (.ireturn, 1) := by decide +kernel
theorem dX1_illsOf_0 : decode cX1_illsOf 0 = .ok (.aload_n 0, 1) := by decide +kernel
theorem dX1_illsOf_1 : decode cX1_illsOf 1 = .ok (.iload_n 1, 1) := by decide +kernel
theorem dX1_illsOf_2 : decode cX1_illsOf 2 = .ok (.iconst 0, 1) := by decide +kernel
theorem dX1_illsOf_3 : decode cX1_illsOf 3 = .ok (.invokevirtual 54, 3) := by decide +kernel
theorem dX1_illsOf_6 : decode cX1_illsOf 6 = .ok (.aload_n 0, 1) := by decide +kernel
theorem dX1_illsOf_7 : decode cX1_illsOf 7 = .ok (.iload_n 1, 1) := by decide +kernel
theorem dX1_illsOf_8 : decode cX1_illsOf 8 = .ok (.iconst 1, 1) := by decide +kernel
theorem dX1_illsOf_9 : decode cX1_illsOf 9 = .ok (.invokevirtual 54, 3) := by decide +kernel
theorem dX1_illsOf_12 : decode cX1_illsOf 12 = .ok (.iadd, 1) := by decide +kernel
theorem dX1_illsOf_13 : decode cX1_illsOf 13 = .ok (.aload_n 0, 1) := by decide +kernel
theorem dX1_illsOf_14 : decode cX1_illsOf 14 = .ok (.iload_n 1, 1) := by decide +kernel
theorem dX1_illsOf_15 : decode cX1_illsOf 15 = .ok (.iconst 2, 1) := by decide +kernel
theorem dX1_illsOf_16 : decode cX1_illsOf 16 = .ok (.invokevirtual 54, 3) := by decide +kernel
theorem dX1_illsOf_19 : decode cX1_illsOf 19 = .ok (.iadd, 1) := by decide +kernel
theorem dX1_illsOf_20 : decode cX1_illsOf 20 = .ok (.ireturn, 1) := by decide +kernel
theorem dX1_tellOf_0 : decode cX1_tellOf 0 = .ok (.iload_n 2, 1) := by decide +kernel
theorem dX1_tellOf_1 : decode cX1_tellOf 1 = .ok (.iconst 3, 1) := by decide +kernel
theorem dX1_tellOf_2 : decode cX1_tellOf 2 = .ok (.if_icmp .ge 12, 3) := by decide +kernel
theorem dX1_tellOf_5 : decode cX1_tellOf 5 = .ok (.aload_n 0, 1) := by decide +kernel
theorem dX1_tellOf_6 : decode cX1_tellOf 6 = .ok (.iload_n 1, 1) := by decide +kernel
theorem dX1_tellOf_7 : decode cX1_tellOf 7 = .ok (.iload_n 2, 1) := by decide +kernel
theorem dX1_tellOf_8 : decode cX1_tellOf 8 = .ok (.invokevirtual 54, 3) := by decide +kernel
theorem dX1_tellOf_11 : decode cX1_tellOf 11 = .ok (.goto 9, 3) := by decide +kernel
theorem dX1_tellOf_14 : decode cX1_tellOf 14 = .ok (.aload_n 0, 1) := by decide +kernel
theorem dX1_tellOf_15 : decode cX1_tellOf 15 = .ok (.getfield 15, 3) := by decide +kernel
theorem dX1_tellOf_18 : decode cX1_tellOf 18 = .ok (.iload_n 1, 1) := by decide +kernel
theorem dX1_tellOf_19 : decode cX1_tellOf 19 = .ok (.iaload, 1) := by decide +kernel
theorem dX1_tellOf_20 : decode cX1_tellOf 20 = .ok (.ireturn, 1) := by decide +kernel
theorem dX1_effectOn_0 : decode cX1_effectOn 0 = .ok (.aload_n 0, 1) := by decide +kernel
theorem dX1_effectOn_1 : decode cX1_effectOn 1 = .ok (.getfield 18, 3) := by decide +kernel
theorem dX1_effectOn_4 : decode cX1_effectOn 4 = .ok (.aload_n 0, 1) := by decide +kernel
theorem dX1_effectOn_5 : decode cX1_effectOn 5 = .ok (.getfield 15, 3) := by decide +kernel
theorem dX1_effectOn_8 : decode cX1_effectOn 8 = .ok (.iload_n 1, 1) := by decide +kernel
theorem dX1_effectOn_9 : decode cX1_effectOn 9 = .ok (.iaload, 1) := by decide +kernel
theorem dX1_effectOn_10 : decode cX1_effectOn 10 = .ok (.iconst 3, 1) := by decide +kernel
theorem dX1_effectOn_11 : decode cX1_effectOn 11 = .ok (.imul, 1) := by decide +kernel
theorem dX1_effectOn_12 : decode cX1_effectOn 12 = .ok (.iload_n 2, 1) := by decide +kernel
theorem dX1_effectOn_13 : decode cX1_effectOn 13 = .ok (.iadd, 1) := by decide +kernel
theorem dX1_effectOn_14 : decode cX1_effectOn 14 = .ok (.iaload, 1) := by decide +kernel
theorem dX1_effectOn_15 : decode cX1_effectOn 15 = .ok (.ireturn, 1) := by decide +kernel
theorem dX1_illsOfAll_0 : decode cX1_illsOfAll 0 = .ok (.iconst 0, 1) := by decide +kernel
theorem dX1_illsOfAll_1 : decode cX1_illsOfAll 1 = .ok (.istore_n 1, 1) := by decide +kernel
theorem dX1_illsOfAll_2 : decode cX1_illsOfAll 2 = .ok (.iconst 0, 1) := by decide +kernel
theorem dX1_illsOfAll_3 : decode cX1_illsOfAll 3 = .ok (.istore_n 2, 1) := by decide +kernel
theorem dX1_illsOfAll_4 : decode cX1_illsOfAll 4 = .ok (.iload_n 2, 1) := by decide +kernel
theorem dX1_illsOfAll_5 : decode cX1_illsOfAll 5 = .ok (.bipush 6, 2) := by decide +kernel
theorem dX1_illsOfAll_7 : decode cX1_illsOfAll 7 = .ok (.if_icmp .ge 29, 3) := by decide +kernel
theorem dX1_illsOfAll_10 : decode cX1_illsOfAll 10 = .ok (.iload_n 1, 1) := by decide +kernel
theorem dX1_illsOfAll_11 : decode cX1_illsOfAll 11 = .ok (.aload_n 0, 1) := by decide +kernel
theorem dX1_illsOfAll_12 : decode cX1_illsOfAll 12 = .ok (.iload_n 2, 1) := by decide +kernel
theorem dX1_illsOfAll_13 : decode cX1_illsOfAll 13 = .ok (.invokevirtual 58, 3) := by decide +kernel
theorem dX1_illsOfAll_16 : decode cX1_illsOfAll 16 = .ok (.ifCond .eq 11, 3) := by decide +kernel
theorem dX1_illsOfAll_19 : decode cX1_illsOfAll 19 = .ok (.aload_n 0, 1) := by decide +kernel
theorem dX1_illsOfAll_20 : decode cX1_illsOfAll 20 = .ok (.iload_n 2, 1) := by decide +kernel
theorem dX1_illsOfAll_21 : decode cX1_illsOfAll 21 = .ok (.invokevirtual 62, 3) := by decide +kernel
theorem dX1_illsOfAll_24 : decode cX1_illsOfAll 24 = .ok (.goto 4, 3) := by decide +kernel
theorem dX1_illsOfAll_27 : decode cX1_illsOfAll 27 = .ok (.iconst 0, 1) := by decide +kernel
theorem dX1_illsOfAll_28 : decode cX1_illsOfAll 28 = .ok (.iadd, 1) := by decide +kernel
theorem dX1_illsOfAll_29 : decode cX1_illsOfAll 29 = .ok (.istore_n 1, 1) := by decide +kernel
theorem dX1_illsOfAll_30 : decode cX1_illsOfAll 30 = .ok (.iinc 2 1, 3) := by decide +kernel
theorem dX1_illsOfAll_33 : decode cX1_illsOfAll 33 = .ok (.goto (-29), 3) := by decide +kernel
theorem dX1_illsOfAll_36 : decode cX1_illsOfAll 36 = .ok (.iload_n 1, 1) := by decide +kernel
theorem dX1_illsOfAll_37 : decode cX1_illsOfAll 37 = .ok (.ireturn, 1) := by decide +kernel
theorem dX1_wellPieces_0 : decode cX1_wellPieces 0 = .ok (.iconst 0, 1) := by decide +kernel
theorem dX1_wellPieces_1 : decode cX1_wellPieces 1 = .ok (.istore_n 1, 1) := by decide +kernel
theorem dX1_wellPieces_2 : decode cX1_wellPieces 2 = .ok (.iconst 0, 1) := by decide +kernel
theorem dX1_wellPieces_3 : decode cX1_wellPieces 3 = .ok (.istore_n 2, 1) := by decide +kernel
theorem dX1_wellPieces_4 : decode cX1_wellPieces 4 = .ok (.iload_n 2, 1) := by decide +kernel
theorem dX1_wellPieces_5 : decode cX1_wellPieces 5 = .ok (.bipush 6, 2) := by decide +kernel
theorem dX1_wellPieces_7 : decode cX1_wellPieces 7 = .ok (.if_icmp .ge 31, 3) := by decide +kernel
theorem dX1_wellPieces_10 : decode cX1_wellPieces 10 = .ok (.aload_n 0, 1) := by decide +kernel
theorem dX1_wellPieces_11 : decode cX1_wellPieces 11 = .ok (.iload_n 2, 1) := by decide +kernel
theorem dX1_wellPieces_12 : decode cX1_wellPieces 12 = .ok (.invokevirtual 58, 3) := by decide +kernel
theorem dX1_wellPieces_15 : decode cX1_wellPieces 15 = .ok (.ifCond .eq 17, 3) := by decide +kernel
theorem dX1_wellPieces_18 : decode cX1_wellPieces 18 = .ok (.aload_n 0, 1) := by decide +kernel
theorem dX1_wellPieces_19 : decode cX1_wellPieces 19 = .ok (.iload_n 2, 1) := by decide +kernel
theorem dX1_wellPieces_20 : decode cX1_wellPieces 20 = .ok (.invokevirtual 62, 3) := by decide +kernel
theorem dX1_wellPieces_23 : decode cX1_wellPieces 23 = .ok (.ifCond .ne 9, 3) := by decide +kernel
theorem dX1_wellPieces_26 : decode cX1_wellPieces 26 = .ok (.iload_n 1, 1) := by decide +kernel
theorem dX1_wellPieces_27 : decode cX1_wellPieces 27 = .ok (.iconst 1, 1) := by decide +kernel
theorem dX1_wellPieces_28 : decode cX1_wellPieces 28 = .ok (.iload_n 2, 1) := by decide +kernel
theorem dX1_wellPieces_29 : decode cX1_wellPieces 29 = .ok (.ishl, 1) := by decide +kernel
theorem dX1_wellPieces_30 : decode cX1_wellPieces 30 = .ok (.ior, 1) := by decide +kernel
theorem dX1_wellPieces_31 : decode cX1_wellPieces 31 = .ok (.istore_n 1, 1) := by decide +kernel
theorem dX1_wellPieces_32 : decode cX1_wellPieces 32 = .ok (.iinc 2 1, 3) := by decide +kernel
theorem dX1_wellPieces_35 : decode cX1_wellPieces 35 = .ok (.goto (-31), 3) := by decide +kernel
theorem dX1_wellPieces_38 : decode cX1_wellPieces 38 = .ok (.iload_n 1, 1) := by decide +kernel
theorem dX1_wellPieces_39 : decode cX1_wellPieces 39 = .ok (.ireturn, 1) := by decide +kernel
theorem dX1_reasonAgainst_0 : decode cX1_reasonAgainst 0 = .ok (.iload_n 2, 1) := by decide +kernel
theorem dX1_reasonAgainst_1 : decode cX1_reasonAgainst 1 = .ok (.iconst 5, 1) := by decide +kernel
theorem dX1_reasonAgainst_2 : decode cX1_reasonAgainst 2 = .ok (.if_icmp .ne 18, 3) := by decide +kernel
theorem dX1_reasonAgainst_5 : decode cX1_reasonAgainst 5 = .ok (.aload_n 0, 1) := by decide +kernel
theorem dX1_reasonAgainst_6 : decode cX1_reasonAgainst 6 = .ok (.getfield 41, 3) := by decide +kernel
theorem dX1_reasonAgainst_9 : decode cX1_reasonAgainst 9 = .ok (.bipush 99, 2) := by decide +kernel
theorem dX1_reasonAgainst_11 : decode cX1_reasonAgainst 11 = .ok (.if_icmp .lt 7, 3) := by decide +kernel
theorem dX1_reasonAgainst_14 : decode cX1_reasonAgainst 14 = .ok (.iconst 4, 1) := by decide +kernel
theorem dX1_reasonAgainst_15 : decode cX1_reasonAgainst 15 = .ok (.goto 4, 3) := by decide +kernel
theorem dX1_reasonAgainst_18 : decode cX1_reasonAgainst 18 = .ok (.iconst 0, 1) := by decide +kernel
theorem dX1_reasonAgainst_19 : decode cX1_reasonAgainst 19 = .ok (.ireturn, 1) := by decide +kernel
theorem dX1_reasonAgainst_20 : decode cX1_reasonAgainst 20 = .ok (.aload_n 0, 1) := by decide +kernel
theorem dX1_reasonAgainst_21 : decode cX1_reasonAgainst 21 = .ok (.iload_n 1, 1) := by decide +kernel
theorem dX1_reasonAgainst_22 : decode cX1_reasonAgainst 22 = .ok (.invokevirtual 58, 3) := by decide +kernel
theorem dX1_reasonAgainst_25 : decode cX1_reasonAgainst 25 = .ok (.ifCond .ne 5, 3) := by decide +kernel
theorem dX1_reasonAgainst_28 : decode cX1_reasonAgainst 28 = .ok (.iconst 1, 1) := by decide +kernel
theorem dX1_reasonAgainst_29 : decode cX1_reasonAgainst 29 = .ok (.ireturn, 1) := by decide +kernel
theorem dX1_reasonAgainst_30 : decode cX1_reasonAgainst 30 = .ok (.iload_n 2, 1) := by decide +kernel
theorem dX1_reasonAgainst_31 : decode cX1_reasonAgainst 31 = .ok (.iconst 4, 1) := by decide +kernel
theorem dX1_reasonAgainst_32 : decode cX1_reasonAgainst 32 = .ok (.if_icmp .eq 15, 3) := by decide +kernel
theorem dX1_reasonAgainst_35 : decode cX1_reasonAgainst 35 = .ok (.aload_n 0, 1) := by decide +kernel
theorem dX1_reasonAgainst_36 : decode cX1_reasonAgainst 36 = .ok (.getfield 15, 3) := by decide +kernel
theorem dX1_reasonAgainst_39 : decode cX1_reasonAgainst 39 = .ok (.iload_n 1, 1) := by decide +kernel
theorem dX1_reasonAgainst_40 : decode cX1_reasonAgainst 40 = .ok (.iaload, 1) := by decide +kernel
theorem dX1_reasonAgainst_41 : decode cX1_reasonAgainst 41 = .ok (.iload_n 2, 1) := by decide +kernel
theorem dX1_reasonAgainst_42 : decode cX1_reasonAgainst 42 = .ok (.if_icmp .ne 5, 3) := by decide +kernel
theorem dX1_reasonAgainst_45 : decode cX1_reasonAgainst 45 = .ok (.iconst 2, 1) := by decide +kernel
theorem dX1_reasonAgainst_46 : decode cX1_reasonAgainst 46 = .ok (.ireturn, 1) := by decide +kernel
theorem dX1_reasonAgainst_47 : decode cX1_reasonAgainst 47 = .ok (.aload_n 0, 1) := by decide +kernel
theorem dX1_reasonAgainst_48 : decode cX1_reasonAgainst 48 = .ok (.iload_n 1, 1) := by decide +kernel
theorem dX1_reasonAgainst_49 : decode cX1_reasonAgainst 49 = .ok (.invokevirtual 66, 3) := by decide +kernel
theorem dX1_reasonAgainst_52 : decode cX1_reasonAgainst 52 = .ok (.ifCond .eq 7, 3) := by decide +kernel
theorem dX1_reasonAgainst_55 : decode cX1_reasonAgainst 55 = .ok (.iconst 3, 1) := by decide +kernel
theorem dX1_reasonAgainst_56 : decode cX1_reasonAgainst 56 = .ok (.goto 4, 3) := by decide +kernel
theorem dX1_reasonAgainst_59 : decode cX1_reasonAgainst 59 = .ok (.iconst 0, 1) := by decide +kernel
theorem dX1_reasonAgainst_60 : decode cX1_reasonAgainst 60 = .ok (.ireturn, 1) := by decide +kernel
theorem dX1_perform_0 : decode cX1_perform 0 = .ok (.iload_n 2, 1) := by decide +kernel
theorem dX1_perform_1 : decode cX1_perform 1 = .ok (.iconst 4, 1) := by decide +kernel
theorem dX1_perform_2 : decode cX1_perform 2 = .ok (.if_icmp .ne 18, 3) := by decide +kernel
theorem dX1_perform_5 : decode cX1_perform 5 = .ok (.aload_n 0, 1) := by decide +kernel
theorem dX1_perform_6 : decode cX1_perform 6 = .ok (.dup, 1) := by decide +kernel
theorem dX1_perform_7 : decode cX1_perform 7 = .ok (.getfield 38, 3) := by decide +kernel
theorem dX1_perform_10 : decode cX1_perform 10 = .ok (.iconst 1, 1) := by decide +kernel
theorem dX1_perform_11 : decode cX1_perform 11 = .ok (.iload_n 1, 1) := by decide +kernel
theorem dX1_perform_12 : decode cX1_perform 12 = .ok (.ishl, 1) := by decide +kernel
theorem dX1_perform_13 : decode cX1_perform 13 = .ok (.ior, 1) := by decide +kernel
theorem dX1_perform_14 : decode cX1_perform 14 = .ok (.putfield 38, 3) := by decide +kernel
theorem dX1_perform_17 : decode cX1_perform 17 = .ok (.goto 10, 3) := by decide +kernel
theorem dX1_perform_20 : decode cX1_perform 20 = .ok (.aload_n 0, 1) := by decide +kernel
theorem dX1_perform_21 : decode cX1_perform 21 = .ok (.getfield 15, 3) := by decide +kernel
theorem dX1_perform_24 : decode cX1_perform 24 = .ok (.iload_n 1, 1) := by decide +kernel
theorem dX1_perform_25 : decode cX1_perform 25 = .ok (.iload_n 2, 1) := by decide +kernel
theorem dX1_perform_26 : decode cX1_perform 26 = .ok (.iastore, 1) := by decide +kernel
theorem dX1_perform_27 : decode cX1_perform 27 = .ok (.return_, 1) := by decide +kernel
theorem dX1_passHour_0 : decode cX1_passHour 0 = .ok (.bipush (-6), 2) := by decide +kernel
theorem dX1_passHour_2 : decode cX1_passHour 2 = .ok (.istore_n 1, 1) := by decide +kernel
theorem dX1_passHour_3 : decode cX1_passHour 3 = .ok (.iconst 5, 1) := by decide +kernel
theorem dX1_passHour_4 : decode cX1_passHour 4 = .ok (.istore_n 2, 1) := by decide +kernel
theorem dX1_passHour_5 : decode cX1_passHour 5 = .ok (.iload_n 2, 1) := by decide +kernel
theorem dX1_passHour_6 : decode cX1_passHour 6 = .ok (.ifCond .lt 43, 3) := by decide +kernel
theorem dX1_passHour_9 : decode cX1_passHour 9 = .ok (.aload_n 0, 1) := by decide +kernel
theorem dX1_passHour_10 : decode cX1_passHour 10 = .ok (.iload_n 2, 1) := by decide +kernel
theorem dX1_passHour_11 : decode cX1_passHour 11 = .ok (.invokevirtual 58, 3) := by decide +kernel
theorem dX1_passHour_14 : decode cX1_passHour 14 = .ok (.ifCond .eq 29, 3) := by decide +kernel
theorem dX1_passHour_17 : decode cX1_passHour 17 = .ok (.aload_n 0, 1) := by decide +kernel
theorem dX1_passHour_18 : decode cX1_passHour 18 = .ok (.iload_n 2, 1) := by decide +kernel
theorem dX1_passHour_19 : decode cX1_passHour 19 = .ok (.invokevirtual 62, 3) := by decide +kernel
theorem dX1_passHour_22 : decode cX1_passHour 22 = .ok (.istore_n 3, 1) := by decide +kernel
theorem dX1_passHour_23 : decode cX1_passHour 23 = .ok (.aload_n 0, 1) := by decide +kernel
theorem dX1_passHour_24 : decode cX1_passHour 24 = .ok (.iload_n 2, 1) := by decide +kernel
theorem dX1_passHour_25 : decode cX1_passHour 25 = .ok (.invokevirtual 69, 3) := by decide +kernel
theorem dX1_passHour_28 : decode cX1_passHour 28 = .ok (.aload_n 0, 1) := by decide +kernel
theorem dX1_passHour_29 : decode cX1_passHour 29 = .ok (.iload_n 2, 1) := by decide +kernel
theorem dX1_passHour_30 : decode cX1_passHour 30 = .ok (.invokevirtual 62, 3) := by decide +kernel
theorem dX1_passHour_33 : decode cX1_passHour 33 = .ok (.iload_n 3, 1) := by decide +kernel
theorem dX1_passHour_34 : decode cX1_passHour 34 = .ok (.if_icmp .le 7, 3) := by decide +kernel
theorem dX1_passHour_37 : decode cX1_passHour 37 = .ok (.iload_n 2, 1) := by decide +kernel
theorem dX1_passHour_38 : decode cX1_passHour 38 = .ok (.goto 4, 3) := by decide +kernel
theorem dX1_passHour_41 : decode cX1_passHour 41 = .ok (.iload_n 1, 1) := by decide +kernel
theorem dX1_passHour_42 : decode cX1_passHour 42 = .ok (.istore_n 1, 1) := by decide +kernel
theorem dX1_passHour_43 : decode cX1_passHour 43 = .ok (.iinc 2 (-1), 3) := by decide +kernel
theorem dX1_passHour_46 : decode cX1_passHour 46 = .ok (.goto (-41), 3) := by decide +kernel
theorem dX1_passHour_49 : decode cX1_passHour 49 = .ok (.aload_n 0, 1) := by decide +kernel
theorem dX1_passHour_50 : decode cX1_passHour 50 = .ok (.iconst 0, 1) := by decide +kernel
theorem dX1_passHour_51 : decode cX1_passHour 51 = .ok (.putfield 38, 3) := by decide +kernel
theorem dX1_passHour_54 : decode cX1_passHour 54 = .ok (.aload_n 0, 1) := by decide +kernel
theorem dX1_passHour_55 : decode cX1_passHour 55 = .ok (.dup, 1) := by decide +kernel
theorem dX1_passHour_56 : decode cX1_passHour 56 = .ok (.getfield 41, 3) := by decide +kernel
theorem dX1_passHour_59 : decode cX1_passHour 59 = .ok (.iconst 1, 1) := by decide +kernel
theorem dX1_passHour_60 : decode cX1_passHour 60 = .ok (.iadd, 1) := by decide +kernel
theorem dX1_passHour_61 : decode cX1_passHour 61 = .ok (.putfield 41, 3) := by decide +kernel
theorem dX1_passHour_64 : decode cX1_passHour 64 = .ok (.iload_n 1, 1) := by decide +kernel
theorem dX1_passHour_65 : decode cX1_passHour 65 = .ok (.ireturn, 1) := by decide +kernel
theorem dX1_passHourOf_0 : decode cX1_passHourOf 0 = .ok (.iload_n 1, 1) := by decide +kernel
theorem dX1_passHourOf_1 : decode cX1_passHourOf 1 = .ok (.iconst 3, 1) := by decide +kernel
theorem dX1_passHourOf_2 : decode cX1_passHourOf 2 = .ok (.imul, 1) := by decide +kernel
theorem dX1_passHourOf_3 : decode cX1_passHourOf 3 = .ok (.istore_n 2, 1) := by decide +kernel
theorem dX1_passHourOf_4 : decode cX1_passHourOf 4 = .ok (.aload_n 0, 1) := by decide +kernel
theorem dX1_passHourOf_5 : decode cX1_passHourOf 5 = .ok (.aload_n 0, 1) := by decide +kernel
theorem dX1_passHourOf_6 : decode cX1_passHourOf 6 = .ok (.getfield 15, 3) := by decide +kernel
theorem dX1_passHourOf_9 : decode cX1_passHourOf 9 = .ok (.iload_n 1, 1) := by decide +kernel
theorem dX1_passHourOf_10 : decode cX1_passHourOf 10 = .ok (.iaload, 1) := by decide +kernel
theorem dX1_passHourOf_11 : decode cX1_passHourOf 11 = .ok (.invokevirtual 73, 3) := by decide +kernel
theorem dX1_passHourOf_14 : decode cX1_passHourOf 14 = .ok (.istore_n 3, 1) := by decide +kernel
theorem dX1_passHourOf_15 : decode cX1_passHourOf 15 = .ok (.iconst 0, 1) := by decide +kernel
theorem dX1_passHourOf_16 : decode cX1_passHourOf 16 = .ok (.istore 4, 2) := by decide +kernel
theorem dX1_passHourOf_18 : decode cX1_passHourOf 18 = .ok (.iload 4, 2) := by decide +kernel
theorem dX1_passHourOf_20 : decode cX1_passHourOf 20 = .ok (.iconst 3, 1) := by decide +kernel
theorem dX1_passHourOf_21 : decode cX1_passHourOf 21 = .ok (.if_icmp .ge 45, 3) := by decide +kernel
theorem dX1_passHourOf_24 : decode cX1_passHourOf 24 = .ok (.aload_n 0, 1) := by decide +kernel
theorem dX1_passHourOf_25 : decode cX1_passHourOf 25 = .ok (.getfield 9, 3) := by decide +kernel
theorem dX1_passHourOf_28 : decode cX1_passHourOf 28 = .ok (.iload_n 2, 1) := by decide +kernel
theorem dX1_passHourOf_29 : decode cX1_passHourOf 29 = .ok (.iload 4, 2) := by decide +kernel
theorem dX1_passHourOf_31 : decode cX1_passHourOf 31 = .ok (.iadd, 1) := by decide +kernel
theorem dX1_passHourOf_32 : decode cX1_passHourOf 32 = .ok (.aload_n 0, 1) := by decide +kernel
theorem dX1_passHourOf_33 : decode cX1_passHourOf 33 = .ok (.getfield 9, 3) := by decide +kernel
theorem dX1_passHourOf_36 : decode cX1_passHourOf 36 = .ok (.iload_n 2, 1) := by decide +kernel
theorem dX1_passHourOf_37 : decode cX1_passHourOf 37 = .ok (.iload 4, 2) := by decide +kernel
theorem dX1_passHourOf_39 : decode cX1_passHourOf 39 = .ok (.iadd, 1) := by decide +kernel
theorem dX1_passHourOf_40 : decode cX1_passHourOf 40 = .ok (.iaload, 1) := by decide +kernel
theorem dX1_passHourOf_41 : decode cX1_passHourOf 41 = .ok (.aload_n 0, 1) := by decide +kernel
theorem dX1_passHourOf_42 : decode cX1_passHourOf 42 = .ok (.iload_n 1, 1) := by decide +kernel
theorem dX1_passHourOf_43 : decode cX1_passHourOf 43 = .ok (.iload 4, 2) := by decide +kernel
theorem dX1_passHourOf_45 : decode cX1_passHourOf 45 = .ok (.aload_n 0, 1) := by decide +kernel
theorem dX1_passHourOf_46 : decode cX1_passHourOf 46 = .ok (.getfield 15, 3) := by decide +kernel
theorem dX1_passHourOf_49 : decode cX1_passHourOf 49 = .ok (.iload_n 1, 1) := by decide +kernel
theorem dX1_passHourOf_50 : decode cX1_passHourOf 50 = .ok (.iaload, 1) := by decide +kernel
theorem dX1_passHourOf_51 : decode cX1_passHourOf 51 = .ok (.iload_n 3, 1) := by decide +kernel
theorem dX1_passHourOf_52 : decode cX1_passHourOf 52 = .ok (.invokevirtual 76, 3) := by decide +kernel
theorem dX1_passHourOf_55 : decode cX1_passHourOf 55 = .ok (.iadd, 1) := by decide +kernel
theorem dX1_passHourOf_56 : decode cX1_passHourOf 56 = .ok (.invokestatic 80, 3) := by decide +kernel
theorem dX1_passHourOf_59 : decode cX1_passHourOf 59 = .ok (.iastore, 1) := by decide +kernel
theorem dX1_passHourOf_60 : decode cX1_passHourOf 60 = .ok (.iinc 4 1, 3) := by decide +kernel
theorem dX1_passHourOf_63 : decode cX1_passHourOf 63 = .ok (.goto (-45), 3) := by decide +kernel
theorem dX1_passHourOf_66 : decode cX1_passHourOf 66 = .ok (.aload_n 0, 1) := by decide +kernel
theorem dX1_passHourOf_67 : decode cX1_passHourOf 67 = .ok (.iload_n 1, 1) := by decide +kernel
theorem dX1_passHourOf_68 : decode cX1_passHourOf 68 = .ok (.invokevirtual 66, 3) := by decide +kernel
theorem dX1_passHourOf_71 : decode cX1_passHourOf 71 = .ok (.ifCond .eq 24, 3) := by decide +kernel
theorem dX1_passHourOf_74 : decode cX1_passHourOf 74 = .ok (.aload_n 0, 1) := by decide +kernel
theorem dX1_passHourOf_75 : decode cX1_passHourOf 75 = .ok (.getfield 9, 3) := by decide +kernel
theorem dX1_passHourOf_78 : decode cX1_passHourOf 78 = .ok (.iload_n 2, 1) := by decide +kernel
theorem dX1_passHourOf_79 : decode cX1_passHourOf 79 = .ok (.iconst 0, 1) := by decide +kernel
theorem dX1_passHourOf_80 : decode cX1_passHourOf 80 = .ok (.iadd, 1) := by decide +kernel
theorem dX1_passHourOf_81 : decode cX1_passHourOf 81 = .ok (.aload_n 0, 1) := by decide +kernel
theorem dX1_passHourOf_82 : decode cX1_passHourOf 82 = .ok (.getfield 9, 3) := by decide +kernel
theorem dX1_passHourOf_85 : decode cX1_passHourOf 85 = .ok (.iload_n 2, 1) := by decide +kernel
theorem dX1_passHourOf_86 : decode cX1_passHourOf 86 = .ok (.iconst 0, 1) := by decide +kernel
theorem dX1_passHourOf_87 : decode cX1_passHourOf 87 = .ok (.iadd, 1) := by decide +kernel
theorem dX1_passHourOf_88 : decode cX1_passHourOf 88 = .ok (.iaload, 1) := by decide +kernel
theorem dX1_passHourOf_89 : decode cX1_passHourOf 89 = .ok (.iconst 2, 1) := by decide +kernel
theorem dX1_passHourOf_90 : decode cX1_passHourOf 90 = .ok (.isub, 1) := by decide +kernel
theorem dX1_passHourOf_91 : decode cX1_passHourOf 91 = .ok (.invokestatic 80, 3) := by decide +kernel
theorem dX1_passHourOf_94 : decode cX1_passHourOf 94 = .ok (.iastore, 1) := by decide +kernel
theorem dX1_passHourOf_95 : decode cX1_passHourOf 95 = .ok (.return_, 1) := by decide +kernel
theorem dX1_withPieces_0 : decode cX1_withPieces 0 = .ok (.iconst 0, 1) := by decide +kernel
theorem dX1_withPieces_1 : decode cX1_withPieces 1 = .ok (.istore_n 2, 1) := by decide +kernel
theorem dX1_withPieces_2 : decode cX1_withPieces 2 = .ok (.iconst 0, 1) := by decide +kernel
theorem dX1_withPieces_3 : decode cX1_withPieces 3 = .ok (.istore_n 3, 1) := by decide +kernel
theorem dX1_withPieces_4 : decode cX1_withPieces 4 = .ok (.iload_n 3, 1) := by decide +kernel
theorem dX1_withPieces_5 : decode cX1_withPieces 5 = .ok (.bipush 6, 2) := by decide +kernel
theorem dX1_withPieces_7 : decode cX1_withPieces 7 = .ok (.if_icmp .ge 37, 3) := by decide +kernel
theorem dX1_withPieces_10 : decode cX1_withPieces 10 = .ok (.aload_n 0, 1) := by decide +kernel
theorem dX1_withPieces_11 : decode cX1_withPieces 11 = .ok (.getfield 34, 3) := by decide +kernel
theorem dX1_withPieces_14 : decode cX1_withPieces 14 = .ok (.iload_n 3, 1) := by decide +kernel
theorem dX1_withPieces_15 : decode cX1_withPieces 15 = .ok (.ishr, 1) := by decide +kernel
theorem dX1_withPieces_16 : decode cX1_withPieces 16 = .ok (.iconst 1, 1) := by decide +kernel
theorem dX1_withPieces_17 : decode cX1_withPieces 17 = .ok (.iand, 1) := by decide +kernel
theorem dX1_withPieces_18 : decode cX1_withPieces 18 = .ok (.iconst 1, 1) := by decide +kernel
theorem dX1_withPieces_19 : decode cX1_withPieces 19 = .ok (.if_icmp .ne 19, 3) := by decide +kernel
theorem dX1_withPieces_22 : decode cX1_withPieces 22 = .ok (.aload_n 0, 1) := by decide +kernel
theorem dX1_withPieces_23 : decode cX1_withPieces 23 = .ok (.getfield 15, 3) := by decide +kernel
theorem dX1_withPieces_26 : decode cX1_withPieces 26 = .ok (.iload_n 3, 1) := by decide +kernel
theorem dX1_withPieces_27 : decode cX1_withPieces 27 = .ok (.iaload, 1) := by decide +kernel
theorem dX1_withPieces_28 : decode cX1_withPieces 28 = .ok (.iload_n 1, 1) := by decide +kernel
theorem dX1_withPieces_29 : decode cX1_withPieces 29 = .ok (.if_icmp .ne 9, 3) := by decide +kernel
theorem dX1_withPieces_32 : decode cX1_withPieces 32 = .ok (.iload_n 2, 1) := by decide +kernel
theorem dX1_withPieces_33 : decode cX1_withPieces 33 = .ok (.iconst 1, 1) := by decide +kernel
theorem dX1_withPieces_34 : decode cX1_withPieces 34 = .ok (.iload_n 3, 1) := by decide +kernel
theorem dX1_withPieces_35 : decode cX1_withPieces 35 = .ok (.ishl, 1) := by decide +kernel
theorem dX1_withPieces_36 : decode cX1_withPieces 36 = .ok (.ior, 1) := by decide +kernel
theorem dX1_withPieces_37 : decode cX1_withPieces 37 = .ok (.istore_n 2, 1) := by decide +kernel
theorem dX1_withPieces_38 : decode cX1_withPieces 38 = .ok (.iinc 3 1, 3) := by decide +kernel
theorem dX1_withPieces_41 : decode cX1_withPieces 41 = .ok (.goto (-37), 3) := by decide +kernel
theorem dX1_withPieces_44 : decode cX1_withPieces 44 = .ok (.iload_n 2, 1) := by decide +kernel
theorem dX1_withPieces_45 : decode cX1_withPieces 45 = .ok (.ireturn, 1) := by decide +kernel
theorem dX1_changeOf_0 : decode cX1_changeOf 0 = .ok (.aload_n 0, 1) := by decide +kernel
theorem dX1_changeOf_1 : decode cX1_changeOf 1 = .ok (.getfield 18, 3) := by decide +kernel
theorem dX1_changeOf_4 : decode cX1_changeOf 4 = .ok (.iload_n 3, 1) := by decide +kernel
theorem dX1_changeOf_5 : decode cX1_changeOf 5 = .ok (.iconst 3, 1) := by decide +kernel
theorem dX1_changeOf_6 : decode cX1_changeOf 6 = .ok (.imul, 1) := by decide +kernel
theorem dX1_changeOf_7 : decode cX1_changeOf 7 = .ok (.iload_n 2, 1) := by decide +kernel
theorem dX1_changeOf_8 : decode cX1_changeOf 8 = .ok (.iadd, 1) := by decide +kernel
theorem dX1_changeOf_9 : decode cX1_changeOf 9 = .ok (.iaload, 1) := by decide +kernel
theorem dX1_changeOf_10 : decode cX1_changeOf 10 = .ok (.istore 5, 2) := by decide +kernel
theorem dX1_changeOf_12 : decode cX1_changeOf 12 = .ok (.iload_n 2, 1) := by decide +kernel
theorem dX1_changeOf_13 : decode cX1_changeOf 13 = .ok (.iconst 1, 1) := by decide +kernel
theorem dX1_changeOf_14 : decode cX1_changeOf 14 = .ok (.if_icmp .ne 44, 3) := by decide +kernel
theorem dX1_changeOf_17 : decode cX1_changeOf 17 = .ok (.iconst 0, 1) := by decide +kernel
theorem dX1_changeOf_18 : decode cX1_changeOf 18 = .ok (.istore 6, 2) := by decide +kernel
theorem dX1_changeOf_20 : decode cX1_changeOf 20 = .ok (.iload 6, 2) := by decide +kernel
theorem dX1_changeOf_22 : decode cX1_changeOf 22 = .ok (.bipush 6, 2) := by decide +kernel
theorem dX1_changeOf_24 : decode cX1_changeOf 24 = .ok (.if_icmp .ge 34, 3) := by decide +kernel
theorem dX1_changeOf_27 : decode cX1_changeOf 27 = .ok (.iload 5, 2) := by decide +kernel
theorem dX1_changeOf_29 : decode cX1_changeOf 29 = .ok (.iload 4, 2) := by decide +kernel
theorem dX1_changeOf_31 : decode cX1_changeOf 31 = .ok (.iload 6, 2) := by decide +kernel
theorem dX1_changeOf_33 : decode cX1_changeOf 33 = .ok (.ishr, 1) := by decide +kernel
theorem dX1_changeOf_34 : decode cX1_changeOf 34 = .ok (.iconst 1, 1) := by decide +kernel
theorem dX1_changeOf_35 : decode cX1_changeOf 35 = .ok (.iand, 1) := by decide +kernel
theorem dX1_changeOf_36 : decode cX1_changeOf 36 = .ok (.aload_n 0, 1) := by decide +kernel
theorem dX1_changeOf_37 : decode cX1_changeOf 37 = .ok (.getfield 21, 3) := by decide +kernel
theorem dX1_changeOf_40 : decode cX1_changeOf 40 = .ok (.iload 6, 2) := by decide +kernel
theorem dX1_changeOf_42 : decode cX1_changeOf 42 = .ok (.bipush 6, 2) := by decide +kernel
theorem dX1_changeOf_44 : decode cX1_changeOf 44 = .ok (.imul, 1) := by decide +kernel
theorem dX1_changeOf_45 : decode cX1_changeOf 45 = .ok (.iload_n 1, 1) := by decide +kernel
theorem dX1_changeOf_46 : decode cX1_changeOf 46 = .ok (.iadd, 1) := by decide +kernel
theorem dX1_changeOf_47 : decode cX1_changeOf 47 = .ok (.iaload, 1) := by decide +kernel
theorem dX1_changeOf_48 : decode cX1_changeOf 48 = .ok (.imul, 1) := by decide +kernel
theorem dX1_changeOf_49 : decode cX1_changeOf 49 = .ok (.iadd, 1) := by decide +kernel
theorem dX1_changeOf_50 : decode cX1_changeOf 50 = .ok (.istore 5, 2) := by decide +kernel
theorem dX1_changeOf_52 : decode cX1_changeOf 52 = .ok (.iinc 6 1, 3) := by decide +kernel
theorem dX1_changeOf_55 : decode cX1_changeOf 55 = .ok (.goto (-35), 3) := by decide +kernel
theorem dX1_changeOf_58 : decode cX1_changeOf 58 = .ok (.iload 5, 2) := by decide +kernel
theorem dX1_changeOf_60 : decode cX1_changeOf 60 = .ok (.ireturn, 1) := by decide +kernel
theorem dX1_hoursToLoseAll_0 : decode cX1_hoursToLoseAll 0 = .ok (.iconst 0, 1) := by decide +kernel
theorem dX1_hoursToLoseAll_1 : decode cX1_hoursToLoseAll 1 = .ok (.istore 4, 2) := by decide +kernel
theorem dX1_hoursToLoseAll_3 : decode cX1_hoursToLoseAll 3 = .ok (.iconst 0, 1) := by decide +kernel
theorem dX1_hoursToLoseAll_4 : decode cX1_hoursToLoseAll 4 = .ok (.istore 5, 2) := by decide +kernel
theorem dX1_hoursToLoseAll_6 : decode cX1_hoursToLoseAll 6 = .ok (.iload 5, 2) := by decide +kernel
theorem dX1_hoursToLoseAll_8 : decode cX1_hoursToLoseAll 8 = .ok (.iconst 3, 1) := by decide +kernel
theorem dX1_hoursToLoseAll_9 : decode cX1_hoursToLoseAll 9 = .ok (.if_icmp .ge 39, 3) := by decide +kernel
theorem dX1_hoursToLoseAll_12 : decode cX1_hoursToLoseAll 12 = .ok (.aload_n 0, 1) := by decide +kernel
theorem dX1_hoursToLoseAll_13 : decode cX1_hoursToLoseAll 13 = .ok (.iload_n 1, 1) := by decide +kernel
theorem dX1_hoursToLoseAll_14 : decode cX1_hoursToLoseAll 14 = .ok (.iload 5, 2) := by decide +kernel
theorem dX1_hoursToLoseAll_16 : decode cX1_hoursToLoseAll 16 = .ok (.invokevirtual 54, 3) := by decide +kernel
theorem dX1_hoursToLoseAll_19 : decode cX1_hoursToLoseAll 19 = .ok (.aload_n 0, 1) := by decide +kernel
theorem dX1_hoursToLoseAll_20 : decode cX1_hoursToLoseAll 20 = .ok (.iload_n 1, 1) := by decide +kernel
theorem dX1_hoursToLoseAll_21 : decode cX1_hoursToLoseAll 21 = .ok (.iload 5, 2) := by decide +kernel
theorem dX1_hoursToLoseAll_23 : decode cX1_hoursToLoseAll 23 = .ok (.iload_n 2, 1) := by decide +kernel
theorem dX1_hoursToLoseAll_24 : decode cX1_hoursToLoseAll 24 = .ok (.iload_n 3, 1) := by decide +kernel
theorem dX1_hoursToLoseAll_25 : decode cX1_hoursToLoseAll 25 = .ok (.invokevirtual 76, 3) := by decide +kernel
theorem dX1_hoursToLoseAll_28 : decode cX1_hoursToLoseAll 28 = .ok (.invokestatic 83, 3) := by decide +kernel
theorem dX1_hoursToLoseAll_31 : decode cX1_hoursToLoseAll 31 = .ok (.istore 6, 2) := by decide +kernel
theorem dX1_hoursToLoseAll_33 : decode cX1_hoursToLoseAll 33 = .ok (.iload 4, 2) := by decide +kernel
theorem dX1_hoursToLoseAll_35 : decode cX1_hoursToLoseAll 35 = .ok (.iload 6, 2) := by decide +kernel
theorem dX1_hoursToLoseAll_37 : decode cX1_hoursToLoseAll 37 = .ok (.invokestatic 86, 3) := by decide +kernel
theorem dX1_hoursToLoseAll_40 : decode cX1_hoursToLoseAll 40 = .ok (.istore 4, 2) := by decide +kernel
theorem dX1_hoursToLoseAll_42 : decode cX1_hoursToLoseAll 42 = .ok (.iinc 5 1, 3) := by decide +kernel
theorem dX1_hoursToLoseAll_45 : decode cX1_hoursToLoseAll 45 = .ok (.goto (-39), 3) := by decide +kernel
theorem dX1_hoursToLoseAll_48 : decode cX1_hoursToLoseAll 48 = .ok (.iload 4, 2) := by decide +kernel
theorem dX1_hoursToLoseAll_50 : decode cX1_hoursToLoseAll 50 = .ok (.ireturn, 1) := by decide +kernel
theorem dX1_hoursStaying_0 : decode cX1_hoursStaying 0 = .ok (.aload_n 0, 1) := by decide +kernel
theorem dX1_hoursStaying_1 : decode cX1_hoursStaying 1 = .ok (.getfield 15, 3) := by decide +kernel
theorem dX1_hoursStaying_4 : decode cX1_hoursStaying 4 = .ok (.iload_n 1, 1) := by decide +kernel
theorem dX1_hoursStaying_5 : decode cX1_hoursStaying 5 = .ok (.iaload, 1) := by decide +kernel
theorem dX1_hoursStaying_6 : decode cX1_hoursStaying 6 = .ok (.istore_n 2, 1) := by decide +kernel
theorem dX1_hoursStaying_7 : decode cX1_hoursStaying 7 = .ok (.aload_n 0, 1) := by decide +kernel
theorem dX1_hoursStaying_8 : decode cX1_hoursStaying 8 = .ok (.iload_n 1, 1) := by decide +kernel
theorem dX1_hoursStaying_9 : decode cX1_hoursStaying 9 = .ok (.invokevirtual 62, 3) := by decide +kernel
theorem dX1_hoursStaying_12 : decode cX1_hoursStaying 12 = .ok (.ifCond .ne 7, 3) := by decide +kernel
theorem dX1_hoursStaying_15 : decode cX1_hoursStaying 15 = .ok (.iconst 0, 1) := by decide +kernel
theorem dX1_hoursStaying_16 : decode cX1_hoursStaying 16 = .ok (.goto 14, 3) := by decide +kernel
theorem dX1_hoursStaying_19 : decode cX1_hoursStaying 19 = .ok (.aload_n 0, 1) := by decide +kernel
theorem dX1_hoursStaying_20 : decode cX1_hoursStaying 20 = .ok (.iload_n 1, 1) := by decide +kernel
theorem dX1_hoursStaying_21 : decode cX1_hoursStaying 21 = .ok (.iload_n 2, 1) := by decide +kernel
theorem dX1_hoursStaying_22 : decode cX1_hoursStaying 22 = .ok (.aload_n 0, 1) := by decide +kernel
theorem dX1_hoursStaying_23 : decode cX1_hoursStaying 23 = .ok (.iload_n 2, 1) := by decide +kernel
theorem dX1_hoursStaying_24 : decode cX1_hoursStaying 24 = .ok (.invokevirtual 73, 3) := by decide +kernel
theorem dX1_hoursStaying_27 : decode cX1_hoursStaying 27 = .ok (.invokevirtual 91, 3) := by decide +kernel
theorem dX1_hoursStaying_30 : decode cX1_hoursStaying 30 = .ok (.ireturn, 1) := by decide +kernel
theorem dX1_hoursAlone_0 : decode cX1_hoursAlone 0 = .ok (.aload_n 0, 1) := by decide +kernel
theorem dX1_hoursAlone_1 : decode cX1_hoursAlone 1 = .ok (.iload_n 1, 1) := by decide +kernel
theorem dX1_hoursAlone_2 : decode cX1_hoursAlone 2 = .ok (.invokevirtual 62, 3) := by decide +kernel
theorem dX1_hoursAlone_5 : decode cX1_hoursAlone 5 = .ok (.ifCond .ne 7, 3) := by decide +kernel
theorem dX1_hoursAlone_8 : decode cX1_hoursAlone 8 = .ok (.iconst 0, 1) := by decide +kernel
theorem dX1_hoursAlone_9 : decode cX1_hoursAlone 9 = .ok (.goto 10, 3) := by decide +kernel
theorem dX1_hoursAlone_12 : decode cX1_hoursAlone 12 = .ok (.aload_n 0, 1) := by decide +kernel
theorem dX1_hoursAlone_13 : decode cX1_hoursAlone 13 = .ok (.iload_n 1, 1) := by decide +kernel
theorem dX1_hoursAlone_14 : decode cX1_hoursAlone 14 = .ok (.iload_n 2, 1) := by decide +kernel
theorem dX1_hoursAlone_15 : decode cX1_hoursAlone 15 = .ok (.iconst 0, 1) := by decide +kernel
theorem dX1_hoursAlone_16 : decode cX1_hoursAlone 16 = .ok (.invokevirtual 91, 3) := by decide +kernel
theorem dX1_hoursAlone_19 : decode cX1_hoursAlone 19 = .ok (.ireturn, 1) := by decide +kernel
theorem dX1_shareOf_0 : decode cX1_shareOf 0 = .ok (.aload_n 0, 1) := by decide +kernel
theorem dX1_shareOf_1 : decode cX1_shareOf 1 = .ok (.invokevirtual 95, 3) := by decide +kernel
theorem dX1_shareOf_4 : decode cX1_shareOf 4 = .ok (.aload_n 0, 1) := by decide +kernel
theorem dX1_shareOf_5 : decode cX1_shareOf 5 = .ok (.getfield 34, 3) := by decide +kernel
theorem dX1_shareOf_8 : decode cX1_shareOf 8 = .ok (.invokestatic 99, 3) := by decide +kernel
theorem dX1_shareOf_11 : decode cX1_shareOf 11 = .ok (.iadd, 1) := by decide +kernel
theorem dX1_shareOf_12 : decode cX1_shareOf 12 = .ok (.istore_n 3, 1) := by decide +kernel
theorem dX1_shareOf_13 : decode cX1_shareOf 13 = .ok (.iload_n 1, 1) := by decide +kernel
theorem dX1_shareOf_14 : decode cX1_shareOf 14 = .ok (.istore 4, 2) := by decide +kernel
theorem dX1_shareOf_16 : decode cX1_shareOf 16 = .ok (.iconst 0, 1) := by decide +kernel
theorem dX1_shareOf_17 : decode cX1_shareOf 17 = .ok (.istore 5, 2) := by decide +kernel
theorem dX1_shareOf_19 : decode cX1_shareOf 19 = .ok (.iconst 0, 1) := by decide +kernel
theorem dX1_shareOf_20 : decode cX1_shareOf 20 = .ok (.istore 6, 2) := by decide +kernel
theorem dX1_shareOf_22 : decode cX1_shareOf 22 = .ok (.iload 6, 2) := by decide +kernel
theorem dX1_shareOf_24 : decode cX1_shareOf 24 = .ok (.bipush 6, 2) := by decide +kernel
theorem dX1_shareOf_26 : decode cX1_shareOf 26 = .ok (.if_icmp .ge 56, 3) := by decide +kernel
theorem dX1_shareOf_29 : decode cX1_shareOf 29 = .ok (.aload_n 0, 1) := by decide +kernel
theorem dX1_shareOf_30 : decode cX1_shareOf 30 = .ok (.iload 6, 2) := by decide +kernel
theorem dX1_shareOf_32 : decode cX1_shareOf 32 = .ok (.invokevirtual 58, 3) := by decide +kernel
theorem dX1_shareOf_35 : decode cX1_shareOf 35 = .ok (.ifCond .eq 41, 3) := by decide +kernel
theorem dX1_shareOf_38 : decode cX1_shareOf 38 = .ok (.iload 4, 2) := by decide +kernel
theorem dX1_shareOf_40 : decode cX1_shareOf 40 = .ok (.iload_n 1, 1) := by decide +kernel
theorem dX1_shareOf_41 : decode cX1_shareOf 41 = .ok (.aload_n 0, 1) := by decide +kernel
theorem dX1_shareOf_42 : decode cX1_shareOf 42 = .ok (.iload 6, 2) := by decide +kernel
theorem dX1_shareOf_44 : decode cX1_shareOf 44 = .ok (.invokevirtual 62, 3) := by decide +kernel
theorem dX1_shareOf_47 : decode cX1_shareOf 47 = .ok (.iconst 1, 1) := by decide +kernel
theorem dX1_shareOf_48 : decode cX1_shareOf 48 = .ok (.iadd, 1) := by decide +kernel
theorem dX1_shareOf_49 : decode cX1_shareOf 49 = .ok (.iload_n 3, 1) := by decide +kernel
theorem dX1_shareOf_50 : decode cX1_shareOf 50 = .ok (.invokestatic 104, 3) := by decide +kernel
theorem dX1_shareOf_53 : decode cX1_shareOf 53 = .ok (.isub, 1) := by decide +kernel
theorem dX1_shareOf_54 : decode cX1_shareOf 54 = .ok (.istore 4, 2) := by decide +kernel
theorem dX1_shareOf_56 : decode cX1_shareOf 56 = .ok (.iload 5, 2) := by decide +kernel
theorem dX1_shareOf_58 : decode cX1_shareOf 58 = .ok (.aload_n 0, 1) := by decide +kernel
theorem dX1_shareOf_59 : decode cX1_shareOf 59 = .ok (.iload 6, 2) := by decide +kernel
theorem dX1_shareOf_61 : decode cX1_shareOf 61 = .ok (.iload_n 2, 1) := by decide +kernel
theorem dX1_shareOf_62 : decode cX1_shareOf 62 = .ok (.invokevirtual 107, 3) := by decide +kernel
theorem dX1_shareOf_65 : decode cX1_shareOf 65 = .ok (.ifCond .eq 7, 3) := by decide +kernel
theorem dX1_shareOf_68 : decode cX1_shareOf 68 = .ok (.iconst 1, 1) := by decide +kernel
theorem dX1_shareOf_69 : decode cX1_shareOf 69 = .ok (.goto 4, 3) := by decide +kernel
theorem dX1_shareOf_72 : decode cX1_shareOf 72 = .ok (.iconst 0, 1) := by decide +kernel
theorem dX1_shareOf_73 : decode cX1_shareOf 73 = .ok (.iadd, 1) := by decide +kernel
theorem dX1_shareOf_74 : decode cX1_shareOf 74 = .ok (.istore 5, 2) := by decide +kernel
theorem dX1_shareOf_76 : decode cX1_shareOf 76 = .ok (.iinc 6 1, 3) := by decide +kernel
theorem dX1_shareOf_79 : decode cX1_shareOf 79 = .ok (.goto (-57), 3) := by decide +kernel
theorem dX1_shareOf_82 : decode cX1_shareOf 82 = .ok (.iload_n 1, 1) := by decide +kernel
theorem dX1_shareOf_83 : decode cX1_shareOf 83 = .ok (.aload_n 0, 1) := by decide +kernel
theorem dX1_shareOf_84 : decode cX1_shareOf 84 = .ok (.iload_n 2, 1) := by decide +kernel
theorem dX1_shareOf_85 : decode cX1_shareOf 85 = .ok (.invokevirtual 62, 3) := by decide +kernel
theorem dX1_shareOf_88 : decode cX1_shareOf 88 = .ok (.iconst 1, 1) := by decide +kernel
theorem dX1_shareOf_89 : decode cX1_shareOf 89 = .ok (.iadd, 1) := by decide +kernel
theorem dX1_shareOf_90 : decode cX1_shareOf 90 = .ok (.iload_n 3, 1) := by decide +kernel
theorem dX1_shareOf_91 : decode cX1_shareOf 91 = .ok (.invokestatic 104, 3) := by decide +kernel
theorem dX1_shareOf_94 : decode cX1_shareOf 94 = .ok (.iload 5, 2) := by decide +kernel
theorem dX1_shareOf_96 : decode cX1_shareOf 96 = .ok (.iload 4, 2) := by decide +kernel
theorem dX1_shareOf_98 : decode cX1_shareOf 98 = .ok (.if_icmp .ge 7, 3) := by decide +kernel
theorem dX1_shareOf_101 : decode cX1_shareOf 101 = .ok (.iconst 1, 1) := by decide +kernel
theorem dX1_shareOf_102 : decode cX1_shareOf 102 = .ok (.goto 4, 3) := by decide +kernel
theorem dX1_shareOf_105 : decode cX1_shareOf 105 = .ok (.iconst 0, 1) := by decide +kernel
theorem dX1_shareOf_106 : decode cX1_shareOf 106 = .ok (.iadd, 1) := by decide +kernel
theorem dX1_shareOf_107 : decode cX1_shareOf 107 = .ok (.ireturn, 1) := by decide +kernel
theorem dX1_paysAhead_0 : decode cX1_paysAhead 0 = .ok (.aload_n 0, 1) := by decide +kernel
theorem dX1_paysAhead_1 : decode cX1_paysAhead 1 = .ok (.iload_n 1, 1) := by decide +kernel
theorem dX1_paysAhead_2 : decode cX1_paysAhead 2 = .ok (.invokevirtual 62, 3) := by decide +kernel
theorem dX1_paysAhead_5 : decode cX1_paysAhead 5 = .ok (.aload_n 0, 1) := by decide +kernel
theorem dX1_paysAhead_6 : decode cX1_paysAhead 6 = .ok (.iload_n 2, 1) := by decide +kernel
theorem dX1_paysAhead_7 : decode cX1_paysAhead 7 = .ok (.invokevirtual 62, 3) := by decide +kernel
theorem dX1_paysAhead_10 : decode cX1_paysAhead 10 = .ok (.if_icmp .gt 21, 3) := by decide +kernel
theorem dX1_paysAhead_13 : decode cX1_paysAhead 13 = .ok (.aload_n 0, 1) := by decide +kernel
theorem dX1_paysAhead_14 : decode cX1_paysAhead 14 = .ok (.iload_n 1, 1) := by decide +kernel
theorem dX1_paysAhead_15 : decode cX1_paysAhead 15 = .ok (.invokevirtual 62, 3) := by decide +kernel
theorem dX1_paysAhead_18 : decode cX1_paysAhead 18 = .ok (.aload_n 0, 1) := by decide +kernel
theorem dX1_paysAhead_19 : decode cX1_paysAhead 19 = .ok (.iload_n 2, 1) := by decide +kernel
theorem dX1_paysAhead_20 : decode cX1_paysAhead 20 = .ok (.invokevirtual 62, 3) := by decide +kernel
theorem dX1_paysAhead_23 : decode cX1_paysAhead 23 = .ok (.if_icmp .ne 12, 3) := by decide +kernel
theorem dX1_paysAhead_26 : decode cX1_paysAhead 26 = .ok (.iload_n 1, 1) := by decide +kernel
theorem dX1_paysAhead_27 : decode cX1_paysAhead 27 = .ok (.iload_n 2, 1) := by decide +kernel
theorem dX1_paysAhead_28 : decode cX1_paysAhead 28 = .ok (.if_icmp .ge 7, 3) := by decide +kernel
theorem dX1_paysAhead_31 : decode cX1_paysAhead 31 = .ok (.iconst 1, 1) := by decide +kernel
theorem dX1_paysAhead_32 : decode cX1_paysAhead 32 = .ok (.goto 4, 3) := by decide +kernel
theorem dX1_paysAhead_35 : decode cX1_paysAhead 35 = .ok (.iconst 0, 1) := by decide +kernel
theorem dX1_paysAhead_36 : decode cX1_paysAhead 36 = .ok (.ireturn, 1) := by decide +kernel
theorem dX1_cutShare_0 : decode cX1_cutShare 0 = .ok (.iload_n 2, 1) := by decide +kernel
theorem dX1_cutShare_1 : decode cX1_cutShare 1 = .ok (.iconst 1, 1) := by decide +kernel
theorem dX1_cutShare_2 : decode cX1_cutShare 2 = .ok (.if_icmp .ge 7, 3) := by decide +kernel
theorem dX1_cutShare_5 : decode cX1_cutShare 5 = .ok (.iconst 0, 1) := by decide +kernel
theorem dX1_cutShare_6 : decode cX1_cutShare 6 = .ok (.goto 8, 3) := by decide +kernel
theorem dX1_cutShare_9 : decode cX1_cutShare 9 = .ok (.iload_n 0, 1) := by decide +kernel
theorem dX1_cutShare_10 : decode cX1_cutShare 10 = .ok (.iload_n 1, 1) := by decide +kernel
theorem dX1_cutShare_11 : decode cX1_cutShare 11 = .ok (.imul, 1) := by decide +kernel
theorem dX1_cutShare_12 : decode cX1_cutShare 12 = .ok (.iload_n 2, 1) := by decide +kernel
theorem dX1_cutShare_13 : decode cX1_cutShare 13 = .ok (.idiv, 1) := by decide +kernel
theorem dX1_cutShare_14 : decode cX1_cutShare 14 = .ok (.ireturn, 1) := by decide +kernel
theorem dX2_init_0 : decode cX2_init 0 = .ok (.aload_n 0, 1) := by decide +kernel
theorem dX2_init_1 : decode cX2_init 1 = .ok (.invokespecial 3, 3) := by decide +kernel
theorem dX2_init_4 : decode cX2_init 4 = .ok (.aload_n 0, 1) := by decide +kernel
theorem dX2_init_5 : decode cX2_init 5 = .ok (.bipush 60, 2) := by decide +kernel
theorem dX2_init_7 : decode cX2_init 7 = .ok (.newarray .int, 2) := by decide +kernel
theorem dX2_init_9 : decode cX2_init 9 = .ok (.putfield 11, 3) := by decide +kernel
theorem dX2_init_12 : decode cX2_init 12 = .ok (.return_, 1) := by decide +kernel
theorem dX2_isFull_0 : decode cX2_isFull 0 = .ok (.aload_n 0, 1) := by decide +kernel
theorem dX2_isFull_1 : decode cX2_isFull 1 = .ok (.getfield 15, 3) := by decide +kernel
theorem dX2_isFull_4 : decode cX2_isFull 4 = .ok (.bipush 60, 2) := by decide +kernel
theorem dX2_isFull_6 : decode cX2_isFull 6 = .ok (.if_icmp .lt 7, 3) := by decide +kernel
theorem dX2_isFull_9 : decode cX2_isFull 9 = .ok (.iconst 1, 1) := by decide +kernel
theorem dX2_isFull_10 : decode cX2_isFull 10 = .ok (.goto 4, 3) := by decide +kernel
theorem dX2_isFull_13 : decode cX2_isFull 13 = .ok (.iconst 0, 1) := by decide +kernel
theorem dX2_isFull_14 : decode cX2_isFull 14 = .ok (.ireturn, 1) := by decide +kernel
theorem dX2_write_0 : decode cX2_write 0 = .ok (.aload_n 0, 1) := by decide +kernel
theorem dX2_write_1 : decode cX2_write 1 = .ok (.invokevirtual 19, 3) := by decide +kernel
theorem dX2_write_4 : decode cX2_write 4 = .ok (.ifCond .eq 4, 3) := by decide +kernel
theorem dX2_write_7 : decode cX2_write 7 = .ok (.return_, 1) := by decide +kernel
theorem dX2_write_8 : decode cX2_write 8 = .ok (.aload_n 0, 1) := by decide +kernel
theorem dX2_write_9 : decode cX2_write 9 = .ok (.getfield 11, 3) := by decide +kernel
theorem dX2_write_12 : decode cX2_write 12 = .ok (.aload_n 0, 1) := by decide +kernel
theorem dX2_write_13 : decode cX2_write 13 = .ok (.getfield 15, 3) := by decide +kernel
theorem dX2_write_16 : decode cX2_write 16 = .ok (.iload_n 1, 1) := by decide +kernel
theorem dX2_write_17 : decode cX2_write 17 = .ok (.iastore, 1) := by decide +kernel
theorem dX2_write_18 : decode cX2_write 18 = .ok (.aload_n 0, 1) := by decide +kernel
theorem dX2_write_19 : decode cX2_write 19 = .ok (.dup, 1) := by decide +kernel
theorem dX2_write_20 : decode cX2_write 20 = .ok (.getfield 15, 3) := by decide +kernel
theorem dX2_write_23 : decode cX2_write 23 = .ok (.iconst 1, 1) := by decide +kernel
theorem dX2_write_24 : decode cX2_write 24 = .ok (.iadd, 1) := by decide +kernel
theorem dX2_write_25 : decode cX2_write 25 = .ok (.putfield 15, 3) := by decide +kernel
theorem dX2_write_28 : decode cX2_write 28 = .ok (.return_, 1) := by decide +kernel
theorem dX2_signAt_0 : decode cX2_signAt 0 = .ok (.iload_n 1, 1) := by decide +kernel
theorem dX2_signAt_1 : decode cX2_signAt 1 = .ok (.bipush 60, 2) := by decide +kernel
theorem dX2_signAt_3 : decode cX2_signAt 3 = .ok (.invokestatic 23, 3) := by decide +kernel
theorem dX2_signAt_6 : decode cX2_signAt 6 = .ok (.ifCond .eq 12, 3) := by decide +kernel
theorem dX2_signAt_9 : decode cX2_signAt 9 = .ok (.aload_n 0, 1) := by decide +kernel
theorem dX2_signAt_10 : decode cX2_signAt 10 = .ok (.getfield 11, 3) := by decide +kernel
theorem dX2_signAt_13 : decode cX2_signAt 13 = .ok (.iload_n 1, 1) := by decide +kernel
theorem dX2_signAt_14 : decode cX2_signAt 14 = .ok (.iaload, 1) := by decide +kernel
theorem dX2_signAt_15 : decode cX2_signAt 15 = .ok (.goto 4, 3) := by decide +kernel
theorem dX2_signAt_18 : decode cX2_signAt 18 = .ok (.iconst 0, 1) := by decide +kernel
theorem dX2_signAt_19 : decode cX2_signAt 19 = .ok (.ireturn, 1) := by decide +kernel
theorem dX2_firstFault_0 : decode cX2_firstFault 0 = .ok (.iconst 0, 1) := by decide +kernel
theorem dX2_firstFault_1 : decode cX2_firstFault 1 = .ok (.istore_n 1, 1) := by decide +kernel
theorem dX2_firstFault_2 : decode cX2_firstFault 2 = .ok (.iconst 0, 1) := by decide +kernel
theorem dX2_firstFault_3 : decode cX2_firstFault 3 = .ok (.istore_n 2, 1) := by decide +kernel
theorem dX2_firstFault_4 : decode cX2_firstFault 4 = .ok (.iload_n 2, 1) := by decide +kernel
theorem dX2_firstFault_5 : decode cX2_firstFault 5 = .ok (.aload_n 0, 1) := by decide +kernel
theorem dX2_firstFault_6 : decode cX2_firstFault 6 = .ok (.getfield 15, 3) := by decide +kernel
theorem dX2_firstFault_9 : decode cX2_firstFault 9 = .ok (.if_icmp .ge 49, 3) := by decide +kernel
theorem dX2_firstFault_12 : decode cX2_firstFault 12 = .ok (.aload_n 0, 1) := by decide +kernel
theorem dX2_firstFault_13 : decode cX2_firstFault 13 = .ok (.iload_n 2, 1) := by decide +kernel
theorem dX2_firstFault_14 : decode cX2_firstFault 14 = .ok (.invokevirtual 27, 3) := by decide +kernel
theorem dX2_firstFault_17 : decode cX2_firstFault 17 = .ok (.istore_n 3, 1) := by decide +kernel
theorem dX2_firstFault_18 : decode cX2_firstFault 18 = .ok (.iload_n 1, 1) := by decide +kernel
theorem dX2_firstFault_19 : decode cX2_firstFault 19 = .ok (.ifCond .eq 13, 3) := by decide +kernel
theorem dX2_firstFault_22 : decode cX2_firstFault 22 = .ok (.iload_n 3, 1) := by decide +kernel
theorem dX2_firstFault_23 : decode cX2_firstFault 23 = .ok (.invokestatic 31, 3) := by decide +kernel
theorem dX2_firstFault_26 : decode cX2_firstFault 26 = .ok (.ifCond .eq 19, 3) := by decide +kernel
theorem dX2_firstFault_29 : decode cX2_firstFault 29 = .ok (.goto 18, 3) := by decide +kernel
theorem dX2_firstFault_32 : decode cX2_firstFault 32 = .ok (.iload_n 3, 1) := by decide +kernel
theorem dX2_firstFault_33 : decode cX2_firstFault 33 = .ok (.bipush 46, 2) := by decide +kernel
theorem dX2_firstFault_35 : decode cX2_firstFault 35 = .ok (.if_icmp .eq 12, 3) := by decide +kernel
theorem dX2_firstFault_38 : decode cX2_firstFault 38 = .ok (.iload_n 3, 1) := by decide +kernel
theorem dX2_firstFault_39 : decode cX2_firstFault 39 = .ok (.invokestatic 35, 3) := by decide +kernel
theorem dX2_firstFault_42 : decode cX2_firstFault 42 = .ok (.ifCond .ne 5, 3) := by decide +kernel
theorem dX2_firstFault_45 : decode cX2_firstFault 45 = .ok (.iload_n 2, 1) := by decide +kernel
theorem dX2_firstFault_46 : decode cX2_firstFault 46 = .ok (.ireturn, 1) := by decide +kernel
theorem dX2_firstFault_47 : decode cX2_firstFault 47 = .ok (.iload_n 3, 1) := by decide +kernel
theorem dX2_firstFault_48 : decode cX2_firstFault 48 = .ok (.invokestatic 35, 3) := by decide +kernel
theorem dX2_firstFault_51 : decode cX2_firstFault 51 = .ok (.istore_n 1, 1) := by decide +kernel
theorem dX2_firstFault_52 : decode cX2_firstFault 52 = .ok (.iinc 2 1, 3) := by decide +kernel
theorem dX2_firstFault_55 : decode cX2_firstFault 55 = .ok (.goto (-51), 3) := by decide +kernel
theorem dX2_firstFault_58 : decode cX2_firstFault 58 = .ok (.iload_n 1, 1) := by decide +kernel
theorem dX2_firstFault_59 : decode cX2_firstFault 59 = .ok (.ifCond .eq 10, 3) := by decide +kernel
theorem dX2_firstFault_62 : decode cX2_firstFault 62 = .ok (.aload_n 0, 1) := by decide +kernel
theorem dX2_firstFault_63 : decode cX2_firstFault 63 = .ok (.getfield 15, 3) := by decide +kernel
theorem dX2_firstFault_66 : decode cX2_firstFault 66 = .ok (.goto 5, 3) := by decide +kernel
theorem dX2_firstFault_69 : decode cX2_firstFault 69 = .ok (.bipush (-6), 2) := by decide +kernel
theorem dX2_firstFault_71 : decode cX2_firstFault 71 = .ok (.ireturn, 1) := by decide +kernel
theorem dX2_isPiece_0 : decode cX2_isPiece 0 = .ok (.iload_n 0, 1) := by decide +kernel
theorem dX2_isPiece_1 : decode cX2_isPiece 1 = .ok (.bipush 65, 2) := by decide +kernel
theorem dX2_isPiece_3 : decode cX2_isPiece 3 = .ok (.if_icmp .lt 13, 3) := by decide +kernel
theorem dX2_isPiece_6 : decode cX2_isPiece 6 = .ok (.iload_n 0, 1) := by decide +kernel
theorem dX2_isPiece_7 : decode cX2_isPiece 7 = .ok (.bipush 71, 2) := by decide +kernel
theorem dX2_isPiece_9 : decode cX2_isPiece 9 = .ok (.if_icmp .ge 7, 3) := by decide +kernel
theorem dX2_isPiece_12 : decode cX2_isPiece 12 = .ok (.iconst 1, 1) := by decide +kernel
theorem dX2_isPiece_13 : decode cX2_isPiece 13 = .ok (.goto 4, 3) := by decide +kernel
theorem dX2_isPiece_16 : decode cX2_isPiece 16 = .ok (.iconst 0, 1) := by decide +kernel
theorem dX2_isPiece_17 : decode cX2_isPiece 17 = .ok (.ireturn, 1) := by decide +kernel
theorem dX2_isAimOfPiece_0 : decode cX2_isAimOfPiece 0 = .ok (.iload_n 0, 1) := by decide +kernel
theorem dX2_isAimOfPiece_1 : decode cX2_isAimOfPiece 1 = .ok (.bipush 33, 2) := by decide +kernel
theorem dX2_isAimOfPiece_3 : decode cX2_isAimOfPiece 3 = .ok (.if_icmp .eq 15, 3) := by decide +kernel
theorem dX2_isAimOfPiece_6 : decode cX2_isAimOfPiece 6 = .ok (.iload_n 0, 1) := by decide +kernel
theorem dX2_isAimOfPiece_7 : decode cX2_isAimOfPiece 7 = .ok (.bipush 97, 2) := by decide +kernel
theorem dX2_isAimOfPiece_9 : decode cX2_isAimOfPiece 9 = .ok (.if_icmp .lt 13, 3) := by decide +kernel
theorem dX2_isAimOfPiece_12 : decode cX2_isAimOfPiece 12 = .ok (.iload_n 0, 1) := by decide +kernel
theorem dX2_isAimOfPiece_13 : decode cX2_isAimOfPiece 13 = .ok (.bipush 101, 2) := by decide +kernel
theorem dX2_isAimOfPiece_15 : decode cX2_isAimOfPiece 15 = .ok (.if_icmp .ge 7, 3) := by decide +kernel
theorem dX2_isAimOfPiece_18 : decode cX2_isAimOfPiece 18 = .ok (.iconst 1, 1) := by decide +kernel
theorem dX2_isAimOfPiece_19 : decode cX2_isAimOfPiece 19 = .ok (.goto 4, 3) := by decide +kernel
theorem dX2_isAimOfPiece_22 : decode cX2_isAimOfPiece 22 = .ok (.iconst 0, 1) := by decide +kernel
theorem dX2_isAimOfPiece_23 : decode cX2_isAimOfPiece 23 = .ok (.ireturn, 1) := by decide +kernel
theorem dX2_aimOf_0 : decode cX2_aimOf 0 = .ok (.iload_n 0, 1) := by decide +kernel
theorem dX2_aimOf_1 : decode cX2_aimOf 1 = .ok (.bipush 46, 2) := by decide +kernel
theorem dX2_aimOf_3 : decode cX2_aimOf 3 = .ok (.if_icmp .ne 5, 3) := by decide +kernel
theorem dX2_aimOf_6 : decode cX2_aimOf 6 = .ok (.iconst 5, 1) := by decide +kernel
theorem dX2_aimOf_7 : decode cX2_aimOf 7 = .ok (.ireturn, 1) := by decide +kernel
theorem dX2_aimOf_8 : decode cX2_aimOf 8 = .ok (.iload_n 0, 1) := by decide +kernel
theorem dX2_aimOf_9 : decode cX2_aimOf 9 = .ok (.bipush 33, 2) := by decide +kernel
theorem dX2_aimOf_11 : decode cX2_aimOf 11 = .ok (.if_icmp .ne 7, 3) := by decide +kernel
theorem dX2_aimOf_14 : decode cX2_aimOf 14 = .ok (.iconst 4, 1) := by decide +kernel
theorem dX2_aimOf_15 : decode cX2_aimOf 15 = .ok (.goto 7, 3) := by decide +kernel
theorem dX2_aimOf_18 : decode cX2_aimOf 18 = .ok (.iload_n 0, 1) := by decide +kernel
theorem dX2_aimOf_19 : decode cX2_aimOf 19 = .ok (.bipush 97, 2) := by decide +kernel
theorem dX2_aimOf_21 : decode cX2_aimOf 21 = .ok (.isub, 1) := by decide +kernel
theorem dX2_aimOf_22 : decode cX2_aimOf 22 = .ok (.ireturn, 1) := by decide +kernel
theorem dX3_init_0 : decode cX3_init 0 = .ok (.aload_n 0, 1) := by decide +kernel
theorem dX3_init_1 : decode cX3_init 1 = .ok (.invokespecial 3, 3) := by decide +kernel
theorem dX3_init_4 : decode cX3_init 4 = .ok (.aload_n 0, 1) := by decide +kernel
theorem dX3_init_5 : decode cX3_init 5 = .ok (.sipush 256, 3) := by decide +kernel
theorem dX3_init_8 : decode cX3_init 8 = .ok (.newarray .int, 2) := by decide +kernel
theorem dX3_init_10 : decode cX3_init 10 = .ok (.putfield 9, 3) := by decide +kernel
theorem dX3_init_13 : decode cX3_init 13 = .ok (.aload_n 0, 1) := by decide +kernel
theorem dX3_init_14 : decode cX3_init 14 = .ok (.bipush 6, 2) := by decide +kernel
theorem dX3_init_16 : decode cX3_init 16 = .ok (.newarray .int, 2) := by decide +kernel
theorem dX3_init_18 : decode cX3_init 18 = .ok (.putfield 15, 3) := by decide +kernel
theorem dX3_init_21 : decode cX3_init 21 = .ok (.aload_n 0, 1) := by decide +kernel
theorem dX3_init_22 : decode cX3_init 22 = .ok (.bipush 6, 2) := by decide +kernel
theorem dX3_init_24 : decode cX3_init 24 = .ok (.newarray .int, 2) := by decide +kernel
theorem dX3_init_26 : decode cX3_init 26 = .ok (.putfield 18, 3) := by decide +kernel
theorem dX3_init_29 : decode cX3_init 29 = .ok (.return_, 1) := by decide +kernel
theorem dX3_setIn_0 : decode cX3_setIn 0 = .ok (.iload_n 0, 1) := by decide +kernel
theorem dX3_setIn_1 : decode cX3_setIn 1 = .ok (.iload_n 1, 1) := by decide +kernel
theorem dX3_setIn_2 : decode cX3_setIn 2 = .ok (.bipush 6, 2) := by decide +kernel
theorem dX3_setIn_4 : decode cX3_setIn 4 = .ok (.imul, 1) := by decide +kernel
theorem dX3_setIn_5 : decode cX3_setIn 5 = .ok (.ishr, 1) := by decide +kernel
theorem dX3_setIn_6 : decode cX3_setIn 6 = .ok (.bipush 63, 2) := by decide +kernel
theorem dX3_setIn_8 : decode cX3_setIn 8 = .ok (.iand, 1) := by decide +kernel
theorem dX3_setIn_9 : decode cX3_setIn 9 = .ok (.ireturn, 1) := by decide +kernel
theorem dX3_join_0 : decode cX3_join 0 = .ok (.iload_n 0, 1) := by decide +kernel
theorem dX3_join_1 : decode cX3_join 1 = .ok (.iconst 1, 1) := by decide +kernel
theorem dX3_join_2 : decode cX3_join 2 = .ok (.iload_n 1, 1) := by decide +kernel
theorem dX3_join_3 : decode cX3_join 3 = .ok (.bipush 6, 2) := by decide +kernel
theorem dX3_join_5 : decode cX3_join 5 = .ok (.imul, 1) := by decide +kernel
theorem dX3_join_6 : decode cX3_join 6 = .ok (.iload_n 2, 1) := by decide +kernel
theorem dX3_join_7 : decode cX3_join 7 = .ok (.iadd, 1) := by decide +kernel
theorem dX3_join_8 : decode cX3_join 8 = .ok (.ishl, 1) := by decide +kernel
theorem dX3_join_9 : decode cX3_join 9 = .ok (.ior, 1) := by decide +kernel
theorem dX3_join_10 : decode cX3_join 10 = .ok (.ireturn, 1) := by decide +kernel
theorem dX3_findSoonest_0 : decode cX3_findSoonest 0 = .ok (.aload_n 0, 1) := by decide +kernel
theorem dX3_findSoonest_1 : decode cX3_findSoonest 1 = .ok (.sipush 1000, 3) := by decide +kernel
theorem dX3_findSoonest_4 : decode cX3_findSoonest 4 = .ok (.putfield 21, 3) := by decide +kernel
theorem dX3_findSoonest_7 : decode cX3_findSoonest 7 = .ok (.aload_n 0, 1) := by decide +kernel
theorem dX3_findSoonest_8 : decode cX3_findSoonest 8 = .ok (.iconst 0, 1) := by decide +kernel
theorem dX3_findSoonest_9 : decode cX3_findSoonest 9 = .ok (.putfield 25, 3) := by decide +kernel
theorem dX3_findSoonest_12 : decode cX3_findSoonest 12 = .ok (.aload_n 0, 1) := by decide +kernel
theorem dX3_findSoonest_13 : decode cX3_findSoonest 13 = .ok (.aload_n 1, 1) := by decide +kernel
theorem dX3_findSoonest_14 : decode cX3_findSoonest 14 = .ok (.invokevirtual 28, 3) := by decide +kernel
theorem dX3_findSoonest_17 : decode cX3_findSoonest 17 = .ok (.aload_n 0, 1) := by decide +kernel
theorem dX3_findSoonest_18 : decode cX3_findSoonest 18 = .ok (.aload_n 1, 1) := by decide +kernel
theorem dX3_findSoonest_19 : decode cX3_findSoonest 19 = .ok (.getfield 32, 3) := by decide +kernel
theorem dX3_findSoonest_22 : decode cX3_findSoonest 22 = .ok (.iconst 0, 1) := by decide +kernel
theorem dX3_findSoonest_23 : decode cX3_findSoonest 23 = .ok (.iconst 0, 1) := by decide +kernel
theorem dX3_findSoonest_24 : decode cX3_findSoonest 24 = .ok (.iconst 0, 1) := by decide +kernel
theorem dX3_findSoonest_25 : decode cX3_findSoonest 25 = .ok (.invokevirtual 37, 3) := by decide +kernel
theorem dX3_findSoonest_28 : decode cX3_findSoonest 28 = .ok (.return_, 1) := by decide +kernel
theorem dX3_weighNeeds_0 : decode cX3_weighNeeds 0 = .ok (.aload_n 1, 1) := by decide +kernel
theorem dX3_weighNeeds_1 : decode cX3_weighNeeds 1 = .ok (.invokevirtual 41, 3) := by decide +kernel
theorem dX3_weighNeeds_4 : decode cX3_weighNeeds 4 = .ok (.aload_n 1, 1) := by decide +kernel
theorem dX3_weighNeeds_5 : decode cX3_weighNeeds 5 = .ok (.getfield 32, 3) := by decide +kernel
theorem dX3_weighNeeds_8 : decode cX3_weighNeeds 8 = .ok (.if_icmp .ne 7, 3) := by decide +kernel
theorem dX3_weighNeeds_11 : decode cX3_weighNeeds 11 = .ok (.iconst 1, 1) := by decide +kernel
theorem dX3_weighNeeds_12 : decode cX3_weighNeeds 12 = .ok (.goto 4, 3) := by decide +kernel
theorem dX3_weighNeeds_15 : decode cX3_weighNeeds 15 = .ok (.iconst 0, 1) := by decide +kernel
theorem dX3_weighNeeds_16 : decode cX3_weighNeeds 16 = .ok (.istore_n 2, 1) := by decide +kernel
theorem dX3_weighNeeds_17 : decode cX3_weighNeeds 17 = .ok (.iconst 0, 1) := by decide +kernel
theorem dX3_weighNeeds_18 : decode cX3_weighNeeds 18 = .ok (.istore_n 3, 1) := by decide +kernel
theorem dX3_weighNeeds_19 : decode cX3_weighNeeds 19 = .ok (.iload_n 3, 1) := by decide +kernel
theorem dX3_weighNeeds_20 : decode cX3_weighNeeds 20 = .ok (.iconst 4, 1) := by decide +kernel
theorem dX3_weighNeeds_21 : decode cX3_weighNeeds 21 = .ok (.if_icmp .ge 64, 3) := by decide +kernel
theorem dX3_weighNeeds_24 : decode cX3_weighNeeds 24 = .ok (.iconst 0, 1) := by decide +kernel
theorem dX3_weighNeeds_25 : decode cX3_weighNeeds 25 = .ok (.istore 4, 2) := by decide +kernel
theorem dX3_weighNeeds_27 : decode cX3_weighNeeds 27 = .ok (.iload 4, 2) := by decide +kernel
theorem dX3_weighNeeds_29 : decode cX3_weighNeeds 29 = .ok (.bipush 64, 2) := by decide +kernel
theorem dX3_weighNeeds_31 : decode cX3_weighNeeds 31 = .ok (.if_icmp .ge 48, 3) := by decide +kernel
theorem dX3_weighNeeds_34 : decode cX3_weighNeeds 34 = .ok (.iload 4, 2) := by decide +kernel
theorem dX3_weighNeeds_36 : decode cX3_weighNeeds 36 = .ok (.aload_n 1, 1) := by decide +kernel
theorem dX3_weighNeeds_37 : decode cX3_weighNeeds 37 = .ok (.getfield 32, 3) := by decide +kernel
theorem dX3_weighNeeds_40 : decode cX3_weighNeeds 40 = .ok (.iconst (-1), 1) := by decide +kernel
theorem dX3_weighNeeds_41 : decode cX3_weighNeeds 41 = .ok (.ixor, 1) := by decide +kernel
theorem dX3_weighNeeds_42 : decode cX3_weighNeeds 42 = .ok (.iand, 1) := by decide +kernel
theorem dX3_weighNeeds_43 : decode cX3_weighNeeds 43 = .ok (.ifCond .ne 30, 3) := by decide +kernel
theorem dX3_weighNeeds_46 : decode cX3_weighNeeds 46 = .ok (.aload_n 0, 1) := by decide +kernel
theorem dX3_weighNeeds_47 : decode cX3_weighNeeds 47 = .ok (.getfield 9, 3) := by decide +kernel
theorem dX3_weighNeeds_50 : decode cX3_weighNeeds 50 = .ok (.iload_n 3, 1) := by decide +kernel
theorem dX3_weighNeeds_51 : decode cX3_weighNeeds 51 = .ok (.bipush 64, 2) := by decide +kernel
theorem dX3_weighNeeds_53 : decode cX3_weighNeeds 53 = .ok (.imul, 1) := by decide +kernel
theorem dX3_weighNeeds_54 : decode cX3_weighNeeds 54 = .ok (.iload 4, 2) := by decide +kernel
theorem dX3_weighNeeds_56 : decode cX3_weighNeeds 56 = .ok (.iadd, 1) := by decide +kernel
theorem dX3_weighNeeds_57 : decode cX3_weighNeeds 57 = .ok (.iload_n 2, 1) := by decide +kernel
theorem dX3_weighNeeds_58 : decode cX3_weighNeeds 58 = .ok (.ifCond .eq 7, 3) := by decide +kernel
theorem dX3_weighNeeds_61 : decode cX3_weighNeeds 61 = .ok (.iconst 0, 1) := by decide +kernel
theorem dX3_weighNeeds_62 : decode cX3_weighNeeds 62 = .ok (.goto 10, 3) := by decide +kernel
theorem dX3_weighNeeds_65 : decode cX3_weighNeeds 65 = .ok (.aload_n 1, 1) := by decide +kernel
theorem dX3_weighNeeds_66 : decode cX3_weighNeeds 66 = .ok (.iload_n 3, 1) := by decide +kernel
theorem dX3_weighNeeds_67 : decode cX3_weighNeeds 67 = .ok (.iload 4, 2) := by decide +kernel
theorem dX3_weighNeeds_69 : decode cX3_weighNeeds 69 = .ok (.invokestatic 45, 3) := by decide +kernel
theorem dX3_weighNeeds_72 : decode cX3_weighNeeds 72 = .ok (.iastore, 1) := by decide +kernel
theorem dX3_weighNeeds_73 : decode cX3_weighNeeds 73 = .ok (.iinc 4 1, 3) := by decide +kernel
theorem dX3_weighNeeds_76 : decode cX3_weighNeeds 76 = .ok (.goto (-49), 3) := by decide +kernel
theorem dX3_weighNeeds_79 : decode cX3_weighNeeds 79 = .ok (.iinc 3 1, 3) := by decide +kernel
theorem dX3_weighNeeds_82 : decode cX3_weighNeeds 82 = .ok (.goto (-63), 3) := by decide +kernel
theorem dX3_weighNeeds_85 : decode cX3_weighNeeds 85 = .ok (.return_, 1) := by decide +kernel
theorem dX3_needOf_0 : decode cX3_needOf 0 = .ok (.iconst 0, 1) := by decide +kernel
theorem dX3_needOf_1 : decode cX3_needOf 1 = .ok (.istore_n 3, 1) := by decide +kernel
theorem dX3_needOf_2 : decode cX3_needOf 2 = .ok (.iconst 0, 1) := by decide +kernel
theorem dX3_needOf_3 : decode cX3_needOf 3 = .ok (.istore 4, 2) := by decide +kernel
theorem dX3_needOf_5 : decode cX3_needOf 5 = .ok (.iload 4, 2) := by decide +kernel
theorem dX3_needOf_7 : decode cX3_needOf 7 = .ok (.bipush 6, 2) := by decide +kernel
theorem dX3_needOf_9 : decode cX3_needOf 9 = .ok (.if_icmp .ge 32, 3) := by decide +kernel
theorem dX3_needOf_12 : decode cX3_needOf 12 = .ok (.iload_n 2, 1) := by decide +kernel
theorem dX3_needOf_13 : decode cX3_needOf 13 = .ok (.iload 4, 2) := by decide +kernel
theorem dX3_needOf_15 : decode cX3_needOf 15 = .ok (.ishr, 1) := by decide +kernel
theorem dX3_needOf_16 : decode cX3_needOf 16 = .ok (.iconst 1, 1) := by decide +kernel
theorem dX3_needOf_17 : decode cX3_needOf 17 = .ok (.iand, 1) := by decide +kernel
theorem dX3_needOf_18 : decode cX3_needOf 18 = .ok (.iconst 1, 1) := by decide +kernel
theorem dX3_needOf_19 : decode cX3_needOf 19 = .ok (.if_icmp .ne 16, 3) := by decide +kernel
theorem dX3_needOf_22 : decode cX3_needOf 22 = .ok (.iload_n 3, 1) := by decide +kernel
theorem dX3_needOf_23 : decode cX3_needOf 23 = .ok (.aload_n 0, 1) := by decide +kernel
theorem dX3_needOf_24 : decode cX3_needOf 24 = .ok (.iload 4, 2) := by decide +kernel
theorem dX3_needOf_26 : decode cX3_needOf 26 = .ok (.iload_n 1, 1) := by decide +kernel
theorem dX3_needOf_27 : decode cX3_needOf 27 = .ok (.iload_n 2, 1) := by decide +kernel
theorem dX3_needOf_28 : decode cX3_needOf 28 = .ok (.invokevirtual 49, 3) := by decide +kernel
theorem dX3_needOf_31 : decode cX3_needOf 31 = .ok (.invokestatic 53, 3) := by decide +kernel
theorem dX3_needOf_34 : decode cX3_needOf 34 = .ok (.istore_n 3, 1) := by decide +kernel
theorem dX3_needOf_35 : decode cX3_needOf 35 = .ok (.iinc 4 1, 3) := by decide +kernel
theorem dX3_needOf_38 : decode cX3_needOf 38 = .ok (.goto (-33), 3) := by decide +kernel
theorem dX3_needOf_41 : decode cX3_needOf 41 = .ok (.iload_n 3, 1) := by decide +kernel
theorem dX3_needOf_42 : decode cX3_needOf 42 = .ok (.ireturn, 1) := by decide +kernel
theorem dX3_placeFrom_0 : decode cX3_placeFrom 0 = .ok (.iload_n 2, 1) := by decide +kernel
theorem dX3_placeFrom_1 : decode cX3_placeFrom 1 = .ok (.bipush 6, 2) := by decide +kernel
theorem dX3_placeFrom_3 : decode cX3_placeFrom 3 = .ok (.if_icmp .lt 13, 3) := by decide +kernel
theorem dX3_placeFrom_6 : decode cX3_placeFrom 6 = .ok (.aload_n 0, 1) := by decide +kernel
theorem dX3_placeFrom_7 : decode cX3_placeFrom 7 = .ok (.iload_n 3, 1) := by decide +kernel
theorem dX3_placeFrom_8 : decode cX3_placeFrom 8 = .ok (.iload 4, 2) := by decide +kernel
theorem dX3_placeFrom_10 : decode cX3_placeFrom 10 = .ok (.invokevirtual 59, 3) := by decide +kernel
theorem dX3_placeFrom_13 : decode cX3_placeFrom 13 = .ok (.goto 75, 3) := by decide +kernel
theorem dX3_placeFrom_16 : decode cX3_placeFrom 16 = .ok (.iload_n 1, 1) := by decide +kernel
theorem dX3_placeFrom_17 : decode cX3_placeFrom 17 = .ok (.iload_n 2, 1) := by decide +kernel
theorem dX3_placeFrom_18 : decode cX3_placeFrom 18 = .ok (.ishr, 1) := by decide +kernel
theorem dX3_placeFrom_19 : decode cX3_placeFrom 19 = .ok (.iconst 1, 1) := by decide +kernel
theorem dX3_placeFrom_20 : decode cX3_placeFrom 20 = .ok (.iand, 1) := by decide +kernel
theorem dX3_placeFrom_21 : decode cX3_placeFrom 21 = .ok (.ifCond .ne 22, 3) := by decide +kernel
theorem dX3_placeFrom_24 : decode cX3_placeFrom 24 = .ok (.aload_n 0, 1) := by decide +kernel
theorem dX3_placeFrom_25 : decode cX3_placeFrom 25 = .ok (.iload_n 1, 1) := by decide +kernel
theorem dX3_placeFrom_26 : decode cX3_placeFrom 26 = .ok (.iload_n 2, 1) := by decide +kernel
theorem dX3_placeFrom_27 : decode cX3_placeFrom 27 = .ok (.iconst 1, 1) := by decide +kernel
theorem dX3_placeFrom_28 : decode cX3_placeFrom 28 = .ok (.iadd, 1) := by decide +kernel
theorem dX3_placeFrom_29 : decode cX3_placeFrom 29 = .ok (.iload_n 3, 1) := by decide +kernel
theorem dX3_placeFrom_30 : decode cX3_placeFrom 30 = .ok (.iload 4, 2) := by decide +kernel
theorem dX3_placeFrom_32 : decode cX3_placeFrom 32 = .ok (.bipush 10, 2) := by decide +kernel
theorem dX3_placeFrom_34 : decode cX3_placeFrom 34 = .ok (.imul, 1) := by decide +kernel
theorem dX3_placeFrom_35 : decode cX3_placeFrom 35 = .ok (.iconst 4, 1) := by decide +kernel
theorem dX3_placeFrom_36 : decode cX3_placeFrom 36 = .ok (.iadd, 1) := by decide +kernel
theorem dX3_placeFrom_37 : decode cX3_placeFrom 37 = .ok (.invokevirtual 37, 3) := by decide +kernel
theorem dX3_placeFrom_40 : decode cX3_placeFrom 40 = .ok (.goto 48, 3) := by decide +kernel
theorem dX3_placeFrom_43 : decode cX3_placeFrom 43 = .ok (.iconst 0, 1) := by decide +kernel
theorem dX3_placeFrom_44 : decode cX3_placeFrom 44 = .ok (.istore 5, 2) := by decide +kernel
theorem dX3_placeFrom_46 : decode cX3_placeFrom 46 = .ok (.iload 5, 2) := by decide +kernel
theorem dX3_placeFrom_48 : decode cX3_placeFrom 48 = .ok (.iconst 4, 1) := by decide +kernel
theorem dX3_placeFrom_49 : decode cX3_placeFrom 49 = .ok (.if_icmp .ge 39, 3) := by decide +kernel
theorem dX3_placeFrom_52 : decode cX3_placeFrom 52 = .ok (.aload_n 0, 1) := by decide +kernel
theorem dX3_placeFrom_53 : decode cX3_placeFrom 53 = .ok (.getfield 21, 3) := by decide +kernel
theorem dX3_placeFrom_56 : decode cX3_placeFrom 56 = .ok (.ifCond .le 32, 3) := by decide +kernel
theorem dX3_placeFrom_59 : decode cX3_placeFrom 59 = .ok (.aload_n 0, 1) := by decide +kernel
theorem dX3_placeFrom_60 : decode cX3_placeFrom 60 = .ok (.iload_n 1, 1) := by decide +kernel
theorem dX3_placeFrom_61 : decode cX3_placeFrom 61 = .ok (.iload_n 2, 1) := by decide +kernel
theorem dX3_placeFrom_62 : decode cX3_placeFrom 62 = .ok (.iconst 1, 1) := by decide +kernel
theorem dX3_placeFrom_63 : decode cX3_placeFrom 63 = .ok (.iadd, 1) := by decide +kernel
theorem dX3_placeFrom_64 : decode cX3_placeFrom 64 = .ok (.iload_n 3, 1) := by decide +kernel
theorem dX3_placeFrom_65 : decode cX3_placeFrom 65 = .ok (.iload 5, 2) := by decide +kernel
theorem dX3_placeFrom_67 : decode cX3_placeFrom 67 = .ok (.iload_n 2, 1) := by decide +kernel
theorem dX3_placeFrom_68 : decode cX3_placeFrom 68 = .ok (.invokestatic 63, 3) := by decide +kernel
theorem dX3_placeFrom_71 : decode cX3_placeFrom 71 = .ok (.iload 4, 2) := by decide +kernel
theorem dX3_placeFrom_73 : decode cX3_placeFrom 73 = .ok (.bipush 10, 2) := by decide +kernel
theorem dX3_placeFrom_75 : decode cX3_placeFrom 75 = .ok (.imul, 1) := by decide +kernel
theorem dX3_placeFrom_76 : decode cX3_placeFrom 76 = .ok (.iload 5, 2) := by decide +kernel
theorem dX3_placeFrom_78 : decode cX3_placeFrom 78 = .ok (.iadd, 1) := by decide +kernel
theorem dX3_placeFrom_79 : decode cX3_placeFrom 79 = .ok (.invokevirtual 37, 3) := by decide +kernel
theorem dX3_placeFrom_82 : decode cX3_placeFrom 82 = .ok (.iinc 5 1, 3) := by decide +kernel
theorem dX3_placeFrom_85 : decode cX3_placeFrom 85 = .ok (.goto (-39), 3) := by decide +kernel
theorem dX3_placeFrom_88 : decode cX3_placeFrom 88 = .ok (.return_, 1) := by decide +kernel
theorem dX3_weighWay_0 : decode cX3_weighWay 0 = .ok (.iconst 0, 1) := by decide +kernel
theorem dX3_weighWay_1 : decode cX3_weighWay 1 = .ok (.istore_n 3, 1) := by decide +kernel
theorem dX3_weighWay_2 : decode cX3_weighWay 2 = .ok (.iconst 0, 1) := by decide +kernel
theorem dX3_weighWay_3 : decode cX3_weighWay 3 = .ok (.istore 4, 2) := by decide +kernel
theorem dX3_weighWay_5 : decode cX3_weighWay 5 = .ok (.iload 4, 2) := by decide +kernel
theorem dX3_weighWay_7 : decode cX3_weighWay 7 = .ok (.iconst 4, 1) := by decide +kernel
theorem dX3_weighWay_8 : decode cX3_weighWay 8 = .ok (.if_icmp .ge 31, 3) := by decide +kernel
theorem dX3_weighWay_11 : decode cX3_weighWay 11 = .ok (.iload_n 3, 1) := by decide +kernel
theorem dX3_weighWay_12 : decode cX3_weighWay 12 = .ok (.aload_n 0, 1) := by decide +kernel
theorem dX3_weighWay_13 : decode cX3_weighWay 13 = .ok (.getfield 9, 3) := by decide +kernel
theorem dX3_weighWay_16 : decode cX3_weighWay 16 = .ok (.iload 4, 2) := by decide +kernel
theorem dX3_weighWay_18 : decode cX3_weighWay 18 = .ok (.bipush 64, 2) := by decide +kernel
theorem dX3_weighWay_20 : decode cX3_weighWay 20 = .ok (.imul, 1) := by decide +kernel
theorem dX3_weighWay_21 : decode cX3_weighWay 21 = .ok (.iload_n 1, 1) := by decide +kernel
theorem dX3_weighWay_22 : decode cX3_weighWay 22 = .ok (.iload 4, 2) := by decide +kernel
theorem dX3_weighWay_24 : decode cX3_weighWay 24 = .ok (.invokestatic 66, 3) := by decide +kernel
theorem dX3_weighWay_27 : decode cX3_weighWay 27 = .ok (.iadd, 1) := by decide +kernel
theorem dX3_weighWay_28 : decode cX3_weighWay 28 = .ok (.iaload, 1) := by decide +kernel
theorem dX3_weighWay_29 : decode cX3_weighWay 29 = .ok (.invokestatic 53, 3) := by decide +kernel
theorem dX3_weighWay_32 : decode cX3_weighWay 32 = .ok (.istore_n 3, 1) := by decide +kernel
theorem dX3_weighWay_33 : decode cX3_weighWay 33 = .ok (.iinc 4 1, 3) := by decide +kernel
theorem dX3_weighWay_36 : decode cX3_weighWay 36 = .ok (.goto (-31), 3) := by decide +kernel
theorem dX3_weighWay_39 : decode cX3_weighWay 39 = .ok (.iload_n 3, 1) := by decide +kernel
theorem dX3_weighWay_40 : decode cX3_weighWay 40 = .ok (.aload_n 0, 1) := by decide +kernel
theorem dX3_weighWay_41 : decode cX3_weighWay 41 = .ok (.getfield 21, 3) := by decide +kernel
theorem dX3_weighWay_44 : decode cX3_weighWay 44 = .ok (.if_icmp .ge 13, 3) := by decide +kernel
theorem dX3_weighWay_47 : decode cX3_weighWay 47 = .ok (.aload_n 0, 1) := by decide +kernel
theorem dX3_weighWay_48 : decode cX3_weighWay 48 = .ok (.iload_n 3, 1) := by decide +kernel
theorem dX3_weighWay_49 : decode cX3_weighWay 49 = .ok (.putfield 21, 3) := by decide +kernel
theorem dX3_weighWay_52 : decode cX3_weighWay 52 = .ok (.aload_n 0, 1) := by decide +kernel
theorem dX3_weighWay_53 : decode cX3_weighWay 53 = .ok (.iload_n 2, 1) := by decide +kernel
theorem dX3_weighWay_54 : decode cX3_weighWay 54 = .ok (.putfield 25, 3) := by decide +kernel
theorem dX3_weighWay_57 : decode cX3_weighWay 57 = .ok (.return_, 1) := by decide +kernel
theorem dX3_countWays_0 : decode cX3_countWays 0 = .ok (.iconst 0, 1) := by decide +kernel
theorem dX3_countWays_1 : decode cX3_countWays 1 = .ok (.istore 5, 2) := by decide +kernel
theorem dX3_countWays_3 : decode cX3_countWays 3 = .ok (.iload 5, 2) := by decide +kernel
theorem dX3_countWays_5 : decode cX3_countWays 5 = .ok (.bipush 6, 2) := by decide +kernel
theorem dX3_countWays_7 : decode cX3_countWays 7 = .ok (.if_icmp .ge 39, 3) := by decide +kernel
theorem dX3_countWays_10 : decode cX3_countWays 10 = .ok (.aload_n 0, 1) := by decide +kernel
theorem dX3_countWays_11 : decode cX3_countWays 11 = .ok (.getfield 15, 3) := by decide +kernel
theorem dX3_countWays_14 : decode cX3_countWays 14 = .ok (.iload 5, 2) := by decide +kernel
theorem dX3_countWays_16 : decode cX3_countWays 16 = .ok (.iload 5, 2) := by decide +kernel
theorem dX3_countWays_18 : decode cX3_countWays 18 = .ok (.iload_n 2, 1) := by decide +kernel
theorem dX3_countWays_19 : decode cX3_countWays 19 = .ok (.invokestatic 69, 3) := by decide +kernel
theorem dX3_countWays_22 : decode cX3_countWays 22 = .ok (.iload_n 1, 1) := by decide +kernel
theorem dX3_countWays_23 : decode cX3_countWays 23 = .ok (.iand, 1) := by decide +kernel
theorem dX3_countWays_24 : decode cX3_countWays 24 = .ok (.iastore, 1) := by decide +kernel
theorem dX3_countWays_25 : decode cX3_countWays 25 = .ok (.aload_n 0, 1) := by decide +kernel
theorem dX3_countWays_26 : decode cX3_countWays 26 = .ok (.getfield 18, 3) := by decide +kernel
theorem dX3_countWays_29 : decode cX3_countWays 29 = .ok (.iload 5, 2) := by decide +kernel
theorem dX3_countWays_31 : decode cX3_countWays 31 = .ok (.iload 5, 2) := by decide +kernel
theorem dX3_countWays_33 : decode cX3_countWays 33 = .ok (.iload_n 3, 1) := by decide +kernel
theorem dX3_countWays_34 : decode cX3_countWays 34 = .ok (.invokestatic 69, 3) := by decide +kernel
theorem dX3_countWays_37 : decode cX3_countWays 37 = .ok (.iload_n 1, 1) := by decide +kernel
theorem dX3_countWays_38 : decode cX3_countWays 38 = .ok (.iand, 1) := by decide +kernel
theorem dX3_countWays_39 : decode cX3_countWays 39 = .ok (.iastore, 1) := by decide +kernel
theorem dX3_countWays_40 : decode cX3_countWays 40 = .ok (.iinc 5 1, 3) := by decide +kernel
theorem dX3_countWays_43 : decode cX3_countWays 43 = .ok (.goto (-40), 3) := by decide +kernel
theorem dX3_countWays_46 : decode cX3_countWays 46 = .ok (.aload_n 0, 1) := by decide +kernel
theorem dX3_countWays_47 : decode cX3_countWays 47 = .ok (.iload_n 1, 1) := by decide +kernel
theorem dX3_countWays_48 : decode cX3_countWays 48 = .ok (.iload 4, 2) := by decide +kernel
theorem dX3_countWays_50 : decode cX3_countWays 50 = .ok (.iconst 0, 1) := by decide +kernel
theorem dX3_countWays_51 : decode cX3_countWays 51 = .ok (.iconst 0, 1) := by decide +kernel
theorem dX3_countWays_52 : decode cX3_countWays 52 = .ok (.iconst 0, 1) := by decide +kernel
theorem dX3_countWays_53 : decode cX3_countWays 53 = .ok (.invokevirtual 72, 3) := by decide +kernel
theorem dX3_countWays_56 : decode cX3_countWays 56 = .ok (.ireturn, 1) := by decide +kernel
theorem dX3_partnersBefore_0 : decode cX3_partnersBefore 0 = .ok (.iconst 0, 1) := by decide +kernel
theorem dX3_partnersBefore_1 : decode cX3_partnersBefore 1 = .ok (.istore_n 2, 1) := by decide +kernel
theorem dX3_partnersBefore_2 : decode cX3_partnersBefore 2 = .ok (.iconst 0, 1) := by decide +kernel
theorem dX3_partnersBefore_3 : decode cX3_partnersBefore 3 = .ok (.istore_n 3, 1) := by decide +kernel
theorem dX3_partnersBefore_4 : decode cX3_partnersBefore 4 = .ok (.iload_n 3, 1) := by decide +kernel
theorem dX3_partnersBefore_5 : decode cX3_partnersBefore 5 = .ok (.iload_n 0, 1) := by decide +kernel
theorem dX3_partnersBefore_6 : decode cX3_partnersBefore 6 = .ok (.if_icmp .ge 36, 3) := by decide +kernel
theorem dX3_partnersBefore_9 : decode cX3_partnersBefore 9 = .ok (.iload_n 3, 1) := by decide +kernel
theorem dX3_partnersBefore_10 : decode cX3_partnersBefore 10 = .ok (.bipush 11, 2) := by decide +kernel
theorem dX3_partnersBefore_12 : decode cX3_partnersBefore 12 = .ok (.iload_n 3, 1) := by decide +kernel
theorem dX3_partnersBefore_13 : decode cX3_partnersBefore 13 = .ok (.isub, 1) := by decide +kernel
theorem dX3_partnersBefore_14 : decode cX3_partnersBefore 14 = .ok (.imul, 1) := by decide +kernel
theorem dX3_partnersBefore_15 : decode cX3_partnersBefore 15 = .ok (.iconst 2, 1) := by decide +kernel
theorem dX3_partnersBefore_16 : decode cX3_partnersBefore 16 = .ok (.idiv, 1) := by decide +kernel
theorem dX3_partnersBefore_17 : decode cX3_partnersBefore 17 = .ok (.iload_n 0, 1) := by decide +kernel
theorem dX3_partnersBefore_18 : decode cX3_partnersBefore 18 = .ok (.iadd, 1) := by decide +kernel
theorem dX3_partnersBefore_19 : decode cX3_partnersBefore 19 = .ok (.iload_n 3, 1) := by decide +kernel
theorem dX3_partnersBefore_20 : decode cX3_partnersBefore 20 = .ok (.isub, 1) := by decide +kernel
theorem dX3_partnersBefore_21 : decode cX3_partnersBefore 21 = .ok (.iconst 1, 1) := by decide +kernel
theorem dX3_partnersBefore_22 : decode cX3_partnersBefore 22 = .ok (.isub, 1) := by decide +kernel
theorem dX3_partnersBefore_23 : decode cX3_partnersBefore 23 = .ok (.istore 4, 2) := by decide +kernel
theorem dX3_partnersBefore_25 : decode cX3_partnersBefore 25 = .ok (.iload_n 2, 1) := by decide +kernel
theorem dX3_partnersBefore_26 : decode cX3_partnersBefore 26 = .ok (.iload_n 1, 1) := by decide +kernel
theorem dX3_partnersBefore_27 : decode cX3_partnersBefore 27 = .ok (.iload 4, 2) := by decide +kernel
theorem dX3_partnersBefore_29 : decode cX3_partnersBefore 29 = .ok (.ishr, 1) := by decide +kernel
theorem dX3_partnersBefore_30 : decode cX3_partnersBefore 30 = .ok (.iconst 1, 1) := by decide +kernel
theorem dX3_partnersBefore_31 : decode cX3_partnersBefore 31 = .ok (.iand, 1) := by decide +kernel
theorem dX3_partnersBefore_32 : decode cX3_partnersBefore 32 = .ok (.iload_n 3, 1) := by decide +kernel
theorem dX3_partnersBefore_33 : decode cX3_partnersBefore 33 = .ok (.ishl, 1) := by decide +kernel
theorem dX3_partnersBefore_34 : decode cX3_partnersBefore 34 = .ok (.ior, 1) := by decide +kernel
theorem dX3_partnersBefore_35 : decode cX3_partnersBefore 35 = .ok (.istore_n 2, 1) := by decide +kernel
theorem dX3_partnersBefore_36 : decode cX3_partnersBefore 36 = .ok (.iinc 3 1, 3) := by decide +kernel
theorem dX3_partnersBefore_39 : decode cX3_partnersBefore 39 = .ok (.goto (-35), 3) := by decide +kernel
theorem dX3_partnersBefore_42 : decode cX3_partnersBefore 42 = .ok (.iload_n 2, 1) := by decide +kernel
theorem dX3_partnersBefore_43 : decode cX3_partnersBefore 43 = .ok (.ireturn, 1) := by decide +kernel
theorem dX3_waysFrom_0 : decode cX3_waysFrom 0 = .ok (.iload_n 3, 1) := by decide +kernel
theorem dX3_waysFrom_1 : decode cX3_waysFrom 1 = .ok (.bipush 6, 2) := by decide +kernel
theorem dX3_waysFrom_3 : decode cX3_waysFrom 3 = .ok (.if_icmp .lt 5, 3) := by decide +kernel
theorem dX3_waysFrom_6 : decode cX3_waysFrom 6 = .ok (.iconst 1, 1) := by decide +kernel
theorem dX3_waysFrom_7 : decode cX3_waysFrom 7 = .ok (.ireturn, 1) := by decide +kernel
theorem dX3_waysFrom_8 : decode cX3_waysFrom 8 = .ok (.iload_n 1, 1) := by decide +kernel
theorem dX3_waysFrom_9 : decode cX3_waysFrom 9 = .ok (.iload_n 3, 1) := by decide +kernel
theorem dX3_waysFrom_10 : decode cX3_waysFrom 10 = .ok (.ishr, 1) := by decide +kernel
theorem dX3_waysFrom_11 : decode cX3_waysFrom 11 = .ok (.iconst 1, 1) := by decide +kernel
theorem dX3_waysFrom_12 : decode cX3_waysFrom 12 = .ok (.iand, 1) := by decide +kernel
theorem dX3_waysFrom_13 : decode cX3_waysFrom 13 = .ok (.ifCond .ne 17, 3) := by decide +kernel
theorem dX3_waysFrom_16 : decode cX3_waysFrom 16 = .ok (.aload_n 0, 1) := by decide +kernel
theorem dX3_waysFrom_17 : decode cX3_waysFrom 17 = .ok (.iload_n 1, 1) := by decide +kernel
theorem dX3_waysFrom_18 : decode cX3_waysFrom 18 = .ok (.iload_n 2, 1) := by decide +kernel
theorem dX3_waysFrom_19 : decode cX3_waysFrom 19 = .ok (.iload_n 3, 1) := by decide +kernel
theorem dX3_waysFrom_20 : decode cX3_waysFrom 20 = .ok (.iconst 1, 1) := by decide +kernel
theorem dX3_waysFrom_21 : decode cX3_waysFrom 21 = .ok (.iadd, 1) := by decide +kernel
theorem dX3_waysFrom_22 : decode cX3_waysFrom 22 = .ok (.iload 4, 2) := by decide +kernel
theorem dX3_waysFrom_24 : decode cX3_waysFrom 24 = .ok (.iload 5, 2) := by decide +kernel
theorem dX3_waysFrom_26 : decode cX3_waysFrom 26 = .ok (.invokevirtual 72, 3) := by decide +kernel
theorem dX3_waysFrom_29 : decode cX3_waysFrom 29 = .ok (.ireturn, 1) := by decide +kernel
theorem dX3_waysFrom_30 : decode cX3_waysFrom 30 = .ok (.iconst 0, 1) := by decide +kernel
theorem dX3_waysFrom_31 : decode cX3_waysFrom 31 = .ok (.istore 6, 2) := by decide +kernel
theorem dX3_waysFrom_33 : decode cX3_waysFrom 33 = .ok (.iconst 0, 1) := by decide +kernel
theorem dX3_waysFrom_34 : decode cX3_waysFrom 34 = .ok (.istore 7, 2) := by decide +kernel
theorem dX3_waysFrom_36 : decode cX3_waysFrom 36 = .ok (.iload 7, 2) := by decide +kernel
theorem dX3_waysFrom_38 : decode cX3_waysFrom 38 = .ok (.iload 5, 2) := by decide +kernel
theorem dX3_waysFrom_40 : decode cX3_waysFrom 40 = .ok (.if_icmp .ge 48, 3) := by decide +kernel
theorem dX3_waysFrom_43 : decode cX3_waysFrom 43 = .ok (.aload_n 0, 1) := by decide +kernel
theorem dX3_waysFrom_44 : decode cX3_waysFrom 44 = .ok (.iload_n 3, 1) := by decide +kernel
theorem dX3_waysFrom_45 : decode cX3_waysFrom 45 = .ok (.iload 4, 2) := by decide +kernel
theorem dX3_waysFrom_47 : decode cX3_waysFrom 47 = .ok (.iload 7, 2) := by decide +kernel
theorem dX3_waysFrom_49 : decode cX3_waysFrom 49 = .ok (.invokestatic 66, 3) := by decide +kernel
theorem dX3_waysFrom_52 : decode cX3_waysFrom 52 = .ok (.invokevirtual 76, 3) := by decide +kernel
theorem dX3_waysFrom_55 : decode cX3_waysFrom 55 = .ok (.ifCond .eq 27, 3) := by decide +kernel
theorem dX3_waysFrom_58 : decode cX3_waysFrom 58 = .ok (.iload 6, 2) := by decide +kernel
theorem dX3_waysFrom_60 : decode cX3_waysFrom 60 = .ok (.aload_n 0, 1) := by decide +kernel
theorem dX3_waysFrom_61 : decode cX3_waysFrom 61 = .ok (.iload_n 1, 1) := by decide +kernel
theorem dX3_waysFrom_62 : decode cX3_waysFrom 62 = .ok (.iload_n 2, 1) := by decide +kernel
theorem dX3_waysFrom_63 : decode cX3_waysFrom 63 = .ok (.iload_n 3, 1) := by decide +kernel
theorem dX3_waysFrom_64 : decode cX3_waysFrom 64 = .ok (.iconst 1, 1) := by decide +kernel
theorem dX3_waysFrom_65 : decode cX3_waysFrom 65 = .ok (.iadd, 1) := by decide +kernel
theorem dX3_waysFrom_66 : decode cX3_waysFrom 66 = .ok (.iload 4, 2) := by decide +kernel
theorem dX3_waysFrom_68 : decode cX3_waysFrom 68 = .ok (.iload 7, 2) := by decide +kernel
theorem dX3_waysFrom_70 : decode cX3_waysFrom 70 = .ok (.iload_n 3, 1) := by decide +kernel
theorem dX3_waysFrom_71 : decode cX3_waysFrom 71 = .ok (.invokestatic 63, 3) := by decide +kernel
theorem dX3_waysFrom_74 : decode cX3_waysFrom 74 = .ok (.iload 5, 2) := by decide +kernel
theorem dX3_waysFrom_76 : decode cX3_waysFrom 76 = .ok (.invokevirtual 72, 3) := by decide +kernel
theorem dX3_waysFrom_79 : decode cX3_waysFrom 79 = .ok (.iadd, 1) := by decide +kernel
theorem dX3_waysFrom_80 : decode cX3_waysFrom 80 = .ok (.istore 6, 2) := by decide +kernel
theorem dX3_waysFrom_82 : decode cX3_waysFrom 82 = .ok (.iinc 7 1, 3) := by decide +kernel
theorem dX3_waysFrom_85 : decode cX3_waysFrom 85 = .ok (.goto (-49), 3) := by decide +kernel
theorem dX3_waysFrom_88 : decode cX3_waysFrom 88 = .ok (.iload 5, 2) := by decide +kernel
theorem dX3_waysFrom_90 : decode cX3_waysFrom 90 = .ok (.iload_n 2, 1) := by decide +kernel
theorem dX3_waysFrom_91 : decode cX3_waysFrom 91 = .ok (.if_icmp .ge 43, 3) := by decide +kernel
theorem dX3_waysFrom_94 : decode cX3_waysFrom 94 = .ok (.aload_n 0, 1) := by decide +kernel
theorem dX3_waysFrom_95 : decode cX3_waysFrom 95 = .ok (.iload_n 3, 1) := by decide +kernel
theorem dX3_waysFrom_96 : decode cX3_waysFrom 96 = .ok (.iconst 0, 1) := by decide +kernel
theorem dX3_waysFrom_97 : decode cX3_waysFrom 97 = .ok (.invokevirtual 76, 3) := by decide +kernel
theorem dX3_waysFrom_100 : decode cX3_waysFrom 100 = .ok (.ifCond .eq 34, 3) := by decide +kernel
theorem dX3_waysFrom_103 : decode cX3_waysFrom 103 = .ok (.iload 6, 2) := by decide +kernel
theorem dX3_waysFrom_105 : decode cX3_waysFrom 105 = .ok (.iload_n 2, 1) := by decide +kernel
theorem dX3_waysFrom_106 : decode cX3_waysFrom 106 = .ok (.iload 5, 2) := by decide +kernel
theorem dX3_waysFrom_108 : decode cX3_waysFrom 108 = .ok (.isub, 1) := by decide +kernel
theorem dX3_waysFrom_109 : decode cX3_waysFrom 109 = .ok (.aload_n 0, 1) := by decide +kernel
theorem dX3_waysFrom_110 : decode cX3_waysFrom 110 = .ok (.iload_n 1, 1) := by decide +kernel
theorem dX3_waysFrom_111 : decode cX3_waysFrom 111 = .ok (.iload_n 2, 1) := by decide +kernel
theorem dX3_waysFrom_112 : decode cX3_waysFrom 112 = .ok (.iload_n 3, 1) := by decide +kernel
theorem dX3_waysFrom_113 : decode cX3_waysFrom 113 = .ok (.iconst 1, 1) := by decide +kernel
theorem dX3_waysFrom_114 : decode cX3_waysFrom 114 = .ok (.iadd, 1) := by decide +kernel
theorem dX3_waysFrom_115 : decode cX3_waysFrom 115 = .ok (.iload 4, 2) := by decide +kernel
theorem dX3_waysFrom_117 : decode cX3_waysFrom 117 = .ok (.iload 5, 2) := by decide +kernel
theorem dX3_waysFrom_119 : decode cX3_waysFrom 119 = .ok (.iload_n 3, 1) := by decide +kernel
theorem dX3_waysFrom_120 : decode cX3_waysFrom 120 = .ok (.invokestatic 63, 3) := by decide +kernel
theorem dX3_waysFrom_123 : decode cX3_waysFrom 123 = .ok (.iload 5, 2) := by decide +kernel
theorem dX3_waysFrom_125 : decode cX3_waysFrom 125 = .ok (.iconst 1, 1) := by decide +kernel
theorem dX3_waysFrom_126 : decode cX3_waysFrom 126 = .ok (.iadd, 1) := by decide +kernel
theorem dX3_waysFrom_127 : decode cX3_waysFrom 127 = .ok (.invokevirtual 72, 3) := by decide +kernel
theorem dX3_waysFrom_130 : decode cX3_waysFrom 130 = .ok (.imul, 1) := by decide +kernel
theorem dX3_waysFrom_131 : decode cX3_waysFrom 131 = .ok (.iadd, 1) := by decide +kernel
theorem dX3_waysFrom_132 : decode cX3_waysFrom 132 = .ok (.istore 6, 2) := by decide +kernel
theorem dX3_waysFrom_134 : decode cX3_waysFrom 134 = .ok (.iload 6, 2) := by decide +kernel
theorem dX3_waysFrom_136 : decode cX3_waysFrom 136 = .ok (.ireturn, 1) := by decide +kernel
theorem dX3_suits_0 : decode cX3_suits 0 = .ok (.aload_n 0, 1) := by decide +kernel
theorem dX3_suits_1 : decode cX3_suits 1 = .ok (.getfield 15, 3) := by decide +kernel
theorem dX3_suits_4 : decode cX3_suits 4 = .ok (.iload_n 1, 1) := by decide +kernel
theorem dX3_suits_5 : decode cX3_suits 5 = .ok (.iaload, 1) := by decide +kernel
theorem dX3_suits_6 : decode cX3_suits 6 = .ok (.iload_n 2, 1) := by decide +kernel
theorem dX3_suits_7 : decode cX3_suits 7 = .ok (.iand, 1) := by decide +kernel
theorem dX3_suits_8 : decode cX3_suits 8 = .ok (.ifCond .ne 20, 3) := by decide +kernel
theorem dX3_suits_11 : decode cX3_suits 11 = .ok (.aload_n 0, 1) := by decide +kernel
theorem dX3_suits_12 : decode cX3_suits 12 = .ok (.getfield 18, 3) := by decide +kernel
theorem dX3_suits_15 : decode cX3_suits 15 = .ok (.iload_n 1, 1) := by decide +kernel
theorem dX3_suits_16 : decode cX3_suits 16 = .ok (.iaload, 1) := by decide +kernel
theorem dX3_suits_17 : decode cX3_suits 17 = .ok (.iload_n 2, 1) := by decide +kernel
theorem dX3_suits_18 : decode cX3_suits 18 = .ok (.iconst (-1), 1) := by decide +kernel
theorem dX3_suits_19 : decode cX3_suits 19 = .ok (.ixor, 1) := by decide +kernel
theorem dX3_suits_20 : decode cX3_suits 20 = .ok (.iand, 1) := by decide +kernel
theorem dX3_suits_21 : decode cX3_suits 21 = .ok (.ifCond .ne 7, 3) := by decide +kernel
theorem dX3_suits_24 : decode cX3_suits 24 = .ok (.iconst 1, 1) := by decide +kernel
theorem dX3_suits_25 : decode cX3_suits 25 = .ok (.goto 4, 3) := by decide +kernel
theorem dX3_suits_28 : decode cX3_suits 28 = .ok (.iconst 0, 1) := by decide +kernel
theorem dX3_suits_29 : decode cX3_suits 29 = .ok (.ireturn, 1) := by decide +kernel
theorem dX4_init_0 : decode cX4_init 0 = .ok (.aload_n 0, 1) := by decide +kernel
theorem dX4_init_1 : decode cX4_init 1 = .ok (.invokespecial 3, 3) := by decide +kernel
theorem dX4_init_4 : decode cX4_init 4 = .ok (.aload_n 0, 1) := by decide +kernel
theorem dX4_init_5 : decode cX4_init 5 = .ok (.sipush 448, 3) := by decide +kernel
theorem dX4_init_8 : decode cX4_init 8 = .ok (.newarray .int, 2) := by decide +kernel
theorem dX4_init_10 : decode cX4_init 10 = .ok (.putfield 9, 3) := by decide +kernel
theorem dX4_init_13 : decode cX4_init 13 = .ok (.return_, 1) := by decide +kernel
theorem dX4_weigh_0 : decode cX4_weigh 0 = .ok (.iconst 5, 1) := by decide +kernel
theorem dX4_weigh_1 : decode cX4_weigh 1 = .ok (.istore_n 2, 1) := by decide +kernel
theorem dX4_weigh_2 : decode cX4_weigh 2 = .ok (.iload_n 2, 1) := by decide +kernel
theorem dX4_weigh_3 : decode cX4_weigh 3 = .ok (.ifCond .lt 57, 3) := by decide +kernel
theorem dX4_weigh_6 : decode cX4_weigh 6 = .ok (.aload_n 1, 1) := by decide +kernel
theorem dX4_weigh_7 : decode cX4_weigh 7 = .ok (.getfield 15, 3) := by decide +kernel
theorem dX4_weigh_10 : decode cX4_weigh 10 = .ok (.iload_n 2, 1) := by decide +kernel
theorem dX4_weigh_11 : decode cX4_weigh 11 = .ok (.iaload, 1) := by decide +kernel
theorem dX4_weigh_12 : decode cX4_weigh 12 = .ok (.aload_n 1, 1) := by decide +kernel
theorem dX4_weigh_13 : decode cX4_weigh 13 = .ok (.getfield 20, 3) := by decide +kernel
theorem dX4_weigh_16 : decode cX4_weigh 16 = .ok (.iand, 1) := by decide +kernel
theorem dX4_weigh_17 : decode cX4_weigh 17 = .ok (.istore_n 3, 1) := by decide +kernel
theorem dX4_weigh_18 : decode cX4_weigh 18 = .ok (.iconst 0, 1) := by decide +kernel
theorem dX4_weigh_19 : decode cX4_weigh 19 = .ok (.istore 4, 2) := by decide +kernel
theorem dX4_weigh_21 : decode cX4_weigh 21 = .ok (.iload 4, 2) := by decide +kernel
theorem dX4_weigh_23 : decode cX4_weigh 23 = .ok (.bipush 64, 2) := by decide +kernel
theorem dX4_weigh_25 : decode cX4_weigh 25 = .ok (.if_icmp .ge 29, 3) := by decide +kernel
theorem dX4_weigh_28 : decode cX4_weigh 28 = .ok (.aload_n 0, 1) := by decide +kernel
theorem dX4_weigh_29 : decode cX4_weigh 29 = .ok (.getfield 9, 3) := by decide +kernel
theorem dX4_weigh_32 : decode cX4_weigh 32 = .ok (.iload_n 2, 1) := by decide +kernel
theorem dX4_weigh_33 : decode cX4_weigh 33 = .ok (.bipush 64, 2) := by decide +kernel
theorem dX4_weigh_35 : decode cX4_weigh 35 = .ok (.imul, 1) := by decide +kernel
theorem dX4_weigh_36 : decode cX4_weigh 36 = .ok (.iload 4, 2) := by decide +kernel
theorem dX4_weigh_38 : decode cX4_weigh 38 = .ok (.iadd, 1) := by decide +kernel
theorem dX4_weigh_39 : decode cX4_weigh 39 = .ok (.aload_n 0, 1) := by decide +kernel
theorem dX4_weigh_40 : decode cX4_weigh 40 = .ok (.iload_n 2, 1) := by decide +kernel
theorem dX4_weigh_41 : decode cX4_weigh 41 = .ok (.iload 4, 2) := by decide +kernel
theorem dX4_weigh_43 : decode cX4_weigh 43 = .ok (.iload_n 3, 1) := by decide +kernel
theorem dX4_weigh_44 : decode cX4_weigh 44 = .ok (.invokevirtual 24, 3) := by decide +kernel
theorem dX4_weigh_47 : decode cX4_weigh 47 = .ok (.iastore, 1) := by decide +kernel
theorem dX4_weigh_48 : decode cX4_weigh 48 = .ok (.iinc 4 1, 3) := by decide +kernel
theorem dX4_weigh_51 : decode cX4_weigh 51 = .ok (.goto (-30), 3) := by decide +kernel
theorem dX4_weigh_54 : decode cX4_weigh 54 = .ok (.iinc 2 (-1), 3) := by decide +kernel
theorem dX4_weigh_57 : decode cX4_weigh 57 = .ok (.goto (-55), 3) := by decide +kernel
theorem dX4_weigh_60 : decode cX4_weigh 60 = .ok (.return_, 1) := by decide +kernel
theorem dX4_mostFrom_0 : decode cX4_mostFrom 0 = .ok (.iload_n 1, 1) := by decide +kernel
theorem dX4_mostFrom_1 : decode cX4_mostFrom 1 = .ok (.iconst 1, 1) := by decide +kernel
theorem dX4_mostFrom_2 : decode cX4_mostFrom 2 = .ok (.iadd, 1) := by decide +kernel
theorem dX4_mostFrom_3 : decode cX4_mostFrom 3 = .ok (.bipush 64, 2) := by decide +kernel
theorem dX4_mostFrom_5 : decode cX4_mostFrom 5 = .ok (.imul, 1) := by decide +kernel
theorem dX4_mostFrom_6 : decode cX4_mostFrom 6 = .ok (.istore 4, 2) := by decide +kernel
theorem dX4_mostFrom_8 : decode cX4_mostFrom 8 = .ok (.aload_n 0, 1) := by decide +kernel
theorem dX4_mostFrom_9 : decode cX4_mostFrom 9 = .ok (.getfield 9, 3) := by decide +kernel
theorem dX4_mostFrom_12 : decode cX4_mostFrom 12 = .ok (.iload 4, 2) := by decide +kernel
theorem dX4_mostFrom_14 : decode cX4_mostFrom 14 = .ok (.iload_n 2, 1) := by decide +kernel
theorem dX4_mostFrom_15 : decode cX4_mostFrom 15 = .ok (.iadd, 1) := by decide +kernel
theorem dX4_mostFrom_16 : decode cX4_mostFrom 16 = .ok (.iaload, 1) := by decide +kernel
theorem dX4_mostFrom_17 : decode cX4_mostFrom 17 = .ok (.istore 5, 2) := by decide +kernel
theorem dX4_mostFrom_19 : decode cX4_mostFrom 19 = .ok (.iconst 0, 1) := by decide +kernel
theorem dX4_mostFrom_20 : decode cX4_mostFrom 20 = .ok (.istore 6, 2) := by decide +kernel
theorem dX4_mostFrom_22 : decode cX4_mostFrom 22 = .ok (.iload 6, 2) := by decide +kernel
theorem dX4_mostFrom_24 : decode cX4_mostFrom 24 = .ok (.bipush 6, 2) := by decide +kernel
theorem dX4_mostFrom_26 : decode cX4_mostFrom 26 = .ok (.if_icmp .ge 46, 3) := by decide +kernel
theorem dX4_mostFrom_29 : decode cX4_mostFrom 29 = .ok (.iload_n 3, 1) := by decide +kernel
theorem dX4_mostFrom_30 : decode cX4_mostFrom 30 = .ok (.iload_n 2, 1) := by decide +kernel
theorem dX4_mostFrom_31 : decode cX4_mostFrom 31 = .ok (.iconst (-1), 1) := by decide +kernel
theorem dX4_mostFrom_32 : decode cX4_mostFrom 32 = .ok (.ixor, 1) := by decide +kernel
theorem dX4_mostFrom_33 : decode cX4_mostFrom 33 = .ok (.iand, 1) := by decide +kernel
theorem dX4_mostFrom_34 : decode cX4_mostFrom 34 = .ok (.iload 6, 2) := by decide +kernel
theorem dX4_mostFrom_36 : decode cX4_mostFrom 36 = .ok (.ishr, 1) := by decide +kernel
theorem dX4_mostFrom_37 : decode cX4_mostFrom 37 = .ok (.iconst 1, 1) := by decide +kernel
theorem dX4_mostFrom_38 : decode cX4_mostFrom 38 = .ok (.iand, 1) := by decide +kernel
theorem dX4_mostFrom_39 : decode cX4_mostFrom 39 = .ok (.iconst 1, 1) := by decide +kernel
theorem dX4_mostFrom_40 : decode cX4_mostFrom 40 = .ok (.if_icmp .ne 26, 3) := by decide +kernel
theorem dX4_mostFrom_43 : decode cX4_mostFrom 43 = .ok (.iload 5, 2) := by decide +kernel
theorem dX4_mostFrom_45 : decode cX4_mostFrom 45 = .ok (.iconst 1, 1) := by decide +kernel
theorem dX4_mostFrom_46 : decode cX4_mostFrom 46 = .ok (.aload_n 0, 1) := by decide +kernel
theorem dX4_mostFrom_47 : decode cX4_mostFrom 47 = .ok (.getfield 9, 3) := by decide +kernel
theorem dX4_mostFrom_50 : decode cX4_mostFrom 50 = .ok (.iload 4, 2) := by decide +kernel
theorem dX4_mostFrom_52 : decode cX4_mostFrom 52 = .ok (.iload_n 2, 1) := by decide +kernel
theorem dX4_mostFrom_53 : decode cX4_mostFrom 53 = .ok (.iconst 1, 1) := by decide +kernel
theorem dX4_mostFrom_54 : decode cX4_mostFrom 54 = .ok (.iload 6, 2) := by decide +kernel
theorem dX4_mostFrom_56 : decode cX4_mostFrom 56 = .ok (.ishl, 1) := by decide +kernel
theorem dX4_mostFrom_57 : decode cX4_mostFrom 57 = .ok (.ior, 1) := by decide +kernel
theorem dX4_mostFrom_58 : decode cX4_mostFrom 58 = .ok (.iadd, 1) := by decide +kernel
theorem dX4_mostFrom_59 : decode cX4_mostFrom 59 = .ok (.iaload, 1) := by decide +kernel
theorem dX4_mostFrom_60 : decode cX4_mostFrom 60 = .ok (.iadd, 1) := by decide +kernel
theorem dX4_mostFrom_61 : decode cX4_mostFrom 61 = .ok (.invokestatic 28, 3) := by decide +kernel
theorem dX4_mostFrom_64 : decode cX4_mostFrom 64 = .ok (.istore 5, 2) := by decide +kernel
theorem dX4_mostFrom_66 : decode cX4_mostFrom 66 = .ok (.iinc 6 1, 3) := by decide +kernel
theorem dX4_mostFrom_69 : decode cX4_mostFrom 69 = .ok (.goto (-47), 3) := by decide +kernel
theorem dX4_mostFrom_72 : decode cX4_mostFrom 72 = .ok (.iload 5, 2) := by decide +kernel
theorem dX4_mostFrom_74 : decode cX4_mostFrom 74 = .ok (.ireturn, 1) := by decide +kernel
theorem dX4_mostSeated_0 : decode cX4_mostSeated 0 = .ok (.aload_n 0, 1) := by decide +kernel
theorem dX4_mostSeated_1 : decode cX4_mostSeated 1 = .ok (.getfield 9, 3) := by decide +kernel
theorem dX4_mostSeated_4 : decode cX4_mostSeated 4 = .ok (.iconst 0, 1) := by decide +kernel
theorem dX4_mostSeated_5 : decode cX4_mostSeated 5 = .ok (.iaload, 1) := by decide +kernel
theorem dX4_mostSeated_6 : decode cX4_mostSeated 6 = .ok (.ireturn, 1) := by decide +kernel
theorem dX4_seatOf_0 : decode cX4_seatOf 0 = .ok (.iconst 0, 1) := by decide +kernel
theorem dX4_seatOf_1 : decode cX4_seatOf 1 = .ok (.istore_n 3, 1) := by decide +kernel
theorem dX4_seatOf_2 : decode cX4_seatOf 2 = .ok (.bipush (-6), 2) := by decide +kernel
theorem dX4_seatOf_4 : decode cX4_seatOf 4 = .ok (.istore 4, 2) := by decide +kernel
theorem dX4_seatOf_6 : decode cX4_seatOf 6 = .ok (.iconst 0, 1) := by decide +kernel
theorem dX4_seatOf_7 : decode cX4_seatOf 7 = .ok (.istore 5, 2) := by decide +kernel
theorem dX4_seatOf_9 : decode cX4_seatOf 9 = .ok (.iload 5, 2) := by decide +kernel
theorem dX4_seatOf_11 : decode cX4_seatOf 11 = .ok (.iload_n 1, 1) := by decide +kernel
theorem dX4_seatOf_12 : decode cX4_seatOf 12 = .ok (.if_icmp .gt 48, 3) := by decide +kernel
theorem dX4_seatOf_15 : decode cX4_seatOf 15 = .ok (.aload_n 0, 1) := by decide +kernel
theorem dX4_seatOf_16 : decode cX4_seatOf 16 = .ok (.iload 5, 2) := by decide +kernel
theorem dX4_seatOf_18 : decode cX4_seatOf 18 = .ok (.iload_n 3, 1) := by decide +kernel
theorem dX4_seatOf_19 : decode cX4_seatOf 19 = .ok (.aload_n 2, 1) := by decide +kernel
theorem dX4_seatOf_20 : decode cX4_seatOf 20 = .ok (.getfield 15, 3) := by decide +kernel
theorem dX4_seatOf_23 : decode cX4_seatOf 23 = .ok (.iload 5, 2) := by decide +kernel
theorem dX4_seatOf_25 : decode cX4_seatOf 25 = .ok (.iaload, 1) := by decide +kernel
theorem dX4_seatOf_26 : decode cX4_seatOf 26 = .ok (.aload_n 2, 1) := by decide +kernel
theorem dX4_seatOf_27 : decode cX4_seatOf 27 = .ok (.getfield 20, 3) := by decide +kernel
theorem dX4_seatOf_30 : decode cX4_seatOf 30 = .ok (.iand, 1) := by decide +kernel
theorem dX4_seatOf_31 : decode cX4_seatOf 31 = .ok (.invokevirtual 34, 3) := by decide +kernel
theorem dX4_seatOf_34 : decode cX4_seatOf 34 = .ok (.istore 4, 2) := by decide +kernel
theorem dX4_seatOf_36 : decode cX4_seatOf 36 = .ok (.iload_n 3, 1) := by decide +kernel
theorem dX4_seatOf_37 : decode cX4_seatOf 37 = .ok (.iload 4, 2) := by decide +kernel
theorem dX4_seatOf_39 : decode cX4_seatOf 39 = .ok (.bipush (-6), 2) := by decide +kernel
theorem dX4_seatOf_41 : decode cX4_seatOf 41 = .ok (.if_icmp .ne 7, 3) := by decide +kernel
theorem dX4_seatOf_44 : decode cX4_seatOf 44 = .ok (.iconst 0, 1) := by decide +kernel
theorem dX4_seatOf_45 : decode cX4_seatOf 45 = .ok (.goto 7, 3) := by decide +kernel
theorem dX4_seatOf_48 : decode cX4_seatOf 48 = .ok (.iconst 1, 1) := by decide +kernel
theorem dX4_seatOf_49 : decode cX4_seatOf 49 = .ok (.iload 4, 2) := by decide +kernel
theorem dX4_seatOf_51 : decode cX4_seatOf 51 = .ok (.ishl, 1) := by decide +kernel
theorem dX4_seatOf_52 : decode cX4_seatOf 52 = .ok (.ior, 1) := by decide +kernel
theorem dX4_seatOf_53 : decode cX4_seatOf 53 = .ok (.istore_n 3, 1) := by decide +kernel
theorem dX4_seatOf_54 : decode cX4_seatOf 54 = .ok (.iinc 5 1, 3) := by decide +kernel
theorem dX4_seatOf_57 : decode cX4_seatOf 57 = .ok (.goto (-48), 3) := by decide +kernel
theorem dX4_seatOf_60 : decode cX4_seatOf 60 = .ok (.iload 4, 2) := by decide +kernel
theorem dX4_seatOf_62 : decode cX4_seatOf 62 = .ok (.ireturn, 1) := by decide +kernel
theorem dX4_leastSeat_0 : decode cX4_leastSeat 0 = .ok (.iload_n 1, 1) := by decide +kernel
theorem dX4_leastSeat_1 : decode cX4_leastSeat 1 = .ok (.iconst 1, 1) := by decide +kernel
theorem dX4_leastSeat_2 : decode cX4_leastSeat 2 = .ok (.iadd, 1) := by decide +kernel
theorem dX4_leastSeat_3 : decode cX4_leastSeat 3 = .ok (.bipush 64, 2) := by decide +kernel
theorem dX4_leastSeat_5 : decode cX4_leastSeat 5 = .ok (.imul, 1) := by decide +kernel
theorem dX4_leastSeat_6 : decode cX4_leastSeat 6 = .ok (.istore 4, 2) := by decide +kernel
theorem dX4_leastSeat_8 : decode cX4_leastSeat 8 = .ok (.iconst 0, 1) := by decide +kernel
theorem dX4_leastSeat_9 : decode cX4_leastSeat 9 = .ok (.istore 5, 2) := by decide +kernel
theorem dX4_leastSeat_11 : decode cX4_leastSeat 11 = .ok (.iload 5, 2) := by decide +kernel
theorem dX4_leastSeat_13 : decode cX4_leastSeat 13 = .ok (.bipush 6, 2) := by decide +kernel
theorem dX4_leastSeat_15 : decode cX4_leastSeat 15 = .ok (.if_icmp .ge 56, 3) := by decide +kernel
theorem dX4_leastSeat_18 : decode cX4_leastSeat 18 = .ok (.iload_n 3, 1) := by decide +kernel
theorem dX4_leastSeat_19 : decode cX4_leastSeat 19 = .ok (.iload_n 2, 1) := by decide +kernel
theorem dX4_leastSeat_20 : decode cX4_leastSeat 20 = .ok (.iconst (-1), 1) := by decide +kernel
theorem dX4_leastSeat_21 : decode cX4_leastSeat 21 = .ok (.ixor, 1) := by decide +kernel
theorem dX4_leastSeat_22 : decode cX4_leastSeat 22 = .ok (.iand, 1) := by decide +kernel
theorem dX4_leastSeat_23 : decode cX4_leastSeat 23 = .ok (.iload 5, 2) := by decide +kernel
theorem dX4_leastSeat_25 : decode cX4_leastSeat 25 = .ok (.ishr, 1) := by decide +kernel
theorem dX4_leastSeat_26 : decode cX4_leastSeat 26 = .ok (.iconst 1, 1) := by decide +kernel
theorem dX4_leastSeat_27 : decode cX4_leastSeat 27 = .ok (.iand, 1) := by decide +kernel
theorem dX4_leastSeat_28 : decode cX4_leastSeat 28 = .ok (.iconst 1, 1) := by decide +kernel
theorem dX4_leastSeat_29 : decode cX4_leastSeat 29 = .ok (.if_icmp .ne 36, 3) := by decide +kernel
theorem dX4_leastSeat_32 : decode cX4_leastSeat 32 = .ok (.iconst 1, 1) := by decide +kernel
theorem dX4_leastSeat_33 : decode cX4_leastSeat 33 = .ok (.aload_n 0, 1) := by decide +kernel
theorem dX4_leastSeat_34 : decode cX4_leastSeat 34 = .ok (.getfield 9, 3) := by decide +kernel
theorem dX4_leastSeat_37 : decode cX4_leastSeat 37 = .ok (.iload 4, 2) := by decide +kernel
theorem dX4_leastSeat_39 : decode cX4_leastSeat 39 = .ok (.iload_n 2, 1) := by decide +kernel
theorem dX4_leastSeat_40 : decode cX4_leastSeat 40 = .ok (.iconst 1, 1) := by decide +kernel
theorem dX4_leastSeat_41 : decode cX4_leastSeat 41 = .ok (.iload 5, 2) := by decide +kernel
theorem dX4_leastSeat_43 : decode cX4_leastSeat 43 = .ok (.ishl, 1) := by decide +kernel
theorem dX4_leastSeat_44 : decode cX4_leastSeat 44 = .ok (.ior, 1) := by decide +kernel
theorem dX4_leastSeat_45 : decode cX4_leastSeat 45 = .ok (.iadd, 1) := by decide +kernel
theorem dX4_leastSeat_46 : decode cX4_leastSeat 46 = .ok (.iaload, 1) := by decide +kernel
theorem dX4_leastSeat_47 : decode cX4_leastSeat 47 = .ok (.iadd, 1) := by decide +kernel
theorem dX4_leastSeat_48 : decode cX4_leastSeat 48 = .ok (.aload_n 0, 1) := by decide +kernel
theorem dX4_leastSeat_49 : decode cX4_leastSeat 49 = .ok (.getfield 9, 3) := by decide +kernel
theorem dX4_leastSeat_52 : decode cX4_leastSeat 52 = .ok (.iload_n 1, 1) := by decide +kernel
theorem dX4_leastSeat_53 : decode cX4_leastSeat 53 = .ok (.bipush 64, 2) := by decide +kernel
theorem dX4_leastSeat_55 : decode cX4_leastSeat 55 = .ok (.imul, 1) := by decide +kernel
theorem dX4_leastSeat_56 : decode cX4_leastSeat 56 = .ok (.iload_n 2, 1) := by decide +kernel
theorem dX4_leastSeat_57 : decode cX4_leastSeat 57 = .ok (.iadd, 1) := by decide +kernel
theorem dX4_leastSeat_58 : decode cX4_leastSeat 58 = .ok (.iaload, 1) := by decide +kernel
theorem dX4_leastSeat_59 : decode cX4_leastSeat 59 = .ok (.if_icmp .ne 6, 3) := by decide +kernel
theorem dX4_leastSeat_62 : decode cX4_leastSeat 62 = .ok (.iload 5, 2) := by decide +kernel
theorem dX4_leastSeat_64 : decode cX4_leastSeat 64 = .ok (.ireturn, 1) := by decide +kernel
theorem dX4_leastSeat_65 : decode cX4_leastSeat 65 = .ok (.iinc 5 1, 3) := by decide +kernel
theorem dX4_leastSeat_68 : decode cX4_leastSeat 68 = .ok (.goto (-57), 3) := by decide +kernel
theorem dX4_leastSeat_71 : decode cX4_leastSeat 71 = .ok (.bipush (-6), 2) := by decide +kernel
theorem dX4_leastSeat_73 : decode cX4_leastSeat 73 = .ok (.ireturn, 1) := by decide +kernel
theorem dX5_init_0 : decode cX5_init 0 = .ok (.aload_n 0, 1) := by decide +kernel
theorem dX5_init_1 : decode cX5_init 1 = .ok (.invokespecial 3, 3) := by decide +kernel
theorem dX5_init_4 : decode cX5_init 4 = .ok (.aload_n 0, 1) := by decide +kernel
theorem dX5_init_5 : decode cX5_init 5 = .ok (.bipush 8, 2) := by decide +kernel
theorem dX5_init_7 : decode cX5_init 7 = .ok (.newarray .int, 2) := by decide +kernel
theorem dX5_init_9 : decode cX5_init 9 = .ok (.putfield 11, 3) := by decide +kernel
theorem dX5_init_12 : decode cX5_init 12 = .ok (.aload_n 0, 1) := by decide +kernel
theorem dX5_init_13 : decode cX5_init 13 = .ok (.bipush 8, 2) := by decide +kernel
theorem dX5_init_15 : decode cX5_init 15 = .ok (.newarray .int, 2) := by decide +kernel
theorem dX5_init_17 : decode cX5_init 17 = .ok (.putfield 15, 3) := by decide +kernel
theorem dX5_init_20 : decode cX5_init 20 = .ok (.aload_n 0, 1) := by decide +kernel
theorem dX5_init_21 : decode cX5_init 21 = .ok (.bipush 8, 2) := by decide +kernel
theorem dX5_init_23 : decode cX5_init 23 = .ok (.newarray .int, 2) := by decide +kernel
theorem dX5_init_25 : decode cX5_init 25 = .ok (.putfield 18, 3) := by decide +kernel
theorem dX5_init_28 : decode cX5_init 28 = .ok (.return_, 1) := by decide +kernel
theorem dX5_copyFrom_0 : decode cX5_copyFrom 0 = .ok (.aload_n 0, 1) := by decide +kernel
theorem dX5_copyFrom_1 : decode cX5_copyFrom 1 = .ok (.aload_n 1, 1) := by decide +kernel
theorem dX5_copyFrom_2 : decode cX5_copyFrom 2 = .ok (.getfield 21, 3) := by decide +kernel
theorem dX5_copyFrom_5 : decode cX5_copyFrom 5 = .ok (.putfield 21, 3) := by decide +kernel
theorem dX5_copyFrom_8 : decode cX5_copyFrom 8 = .ok (.aload_n 1, 1) := by decide +kernel
theorem dX5_copyFrom_9 : decode cX5_copyFrom 9 = .ok (.getfield 11, 3) := by decide +kernel
theorem dX5_copyFrom_12 : decode cX5_copyFrom 12 = .ok (.iconst 0, 1) := by decide +kernel
theorem dX5_copyFrom_13 : decode cX5_copyFrom 13 = .ok (.aload_n 0, 1) := by decide +kernel
theorem dX5_copyFrom_14 : decode cX5_copyFrom 14 = .ok (.getfield 11, 3) := by decide +kernel
theorem dX5_copyFrom_17 : decode cX5_copyFrom 17 = .ok (.iconst 0, 1) := by decide +kernel
theorem dX5_copyFrom_18 : decode cX5_copyFrom 18 = .ok (.bipush 8, 2) := by decide +kernel
theorem dX5_copyFrom_20 : decode cX5_copyFrom 20 = .ok (.invokestatic 25, 3) := by decide +kernel
theorem dX5_copyFrom_23 : decode cX5_copyFrom 23 = .ok (.aload_n 1, 1) := by decide +kernel
theorem dX5_copyFrom_24 : decode cX5_copyFrom 24 = .ok (.getfield 15, 3) := by decide +kernel
theorem dX5_copyFrom_27 : decode cX5_copyFrom 27 = .ok (.iconst 0, 1) := by decide +kernel
theorem dX5_copyFrom_28 : decode cX5_copyFrom 28 = .ok (.aload_n 0, 1) := by decide +kernel
theorem dX5_copyFrom_29 : decode cX5_copyFrom 29 = .ok (.getfield 15, 3) := by decide +kernel
theorem dX5_copyFrom_32 : decode cX5_copyFrom 32 = .ok (.iconst 0, 1) := by decide +kernel
theorem dX5_copyFrom_33 : decode cX5_copyFrom 33 = .ok (.bipush 8, 2) := by decide +kernel
theorem dX5_copyFrom_35 : decode cX5_copyFrom 35 = .ok (.invokestatic 25, 3) := by decide +kernel
theorem dX5_copyFrom_38 : decode cX5_copyFrom 38 = .ok (.aload_n 1, 1) := by decide +kernel
theorem dX5_copyFrom_39 : decode cX5_copyFrom 39 = .ok (.getfield 18, 3) := by decide +kernel
theorem dX5_copyFrom_42 : decode cX5_copyFrom 42 = .ok (.iconst 0, 1) := by decide +kernel
theorem dX5_copyFrom_43 : decode cX5_copyFrom 43 = .ok (.aload_n 0, 1) := by decide +kernel
theorem dX5_copyFrom_44 : decode cX5_copyFrom 44 = .ok (.getfield 18, 3) := by decide +kernel
theorem dX5_copyFrom_47 : decode cX5_copyFrom 47 = .ok (.iconst 0, 1) := by decide +kernel
theorem dX5_copyFrom_48 : decode cX5_copyFrom 48 = .ok (.bipush 8, 2) := by decide +kernel
theorem dX5_copyFrom_50 : decode cX5_copyFrom 50 = .ok (.invokestatic 25, 3) := by decide +kernel
theorem dX5_copyFrom_53 : decode cX5_copyFrom 53 = .ok (.return_, 1) := by decide +kernel
theorem dX5_isFull_0 : decode cX5_isFull 0 = .ok (.aload_n 0, 1) := by decide +kernel
theorem dX5_isFull_1 : decode cX5_isFull 1 = .ok (.getfield 21, 3) := by decide +kernel
theorem dX5_isFull_4 : decode cX5_isFull 4 = .ok (.bipush 8, 2) := by decide +kernel
theorem dX5_isFull_6 : decode cX5_isFull 6 = .ok (.if_icmp .lt 7, 3) := by decide +kernel
theorem dX5_isFull_9 : decode cX5_isFull 9 = .ok (.iconst 1, 1) := by decide +kernel
theorem dX5_isFull_10 : decode cX5_isFull 10 = .ok (.goto 4, 3) := by decide +kernel
theorem dX5_isFull_13 : decode cX5_isFull 13 = .ok (.iconst 0, 1) := by decide +kernel
theorem dX5_isFull_14 : decode cX5_isFull 14 = .ok (.ireturn, 1) := by decide +kernel
theorem dX5_note_0 : decode cX5_note 0 = .ok (.aload_n 0, 1) := by decide +kernel
theorem dX5_note_1 : decode cX5_note 1 = .ok (.invokevirtual 31, 3) := by decide +kernel
theorem dX5_note_4 : decode cX5_note 4 = .ok (.ifCond .eq 4, 3) := by decide +kernel
theorem dX5_note_7 : decode cX5_note 7 = .ok (.return_, 1) := by decide +kernel
theorem dX5_note_8 : decode cX5_note 8 = .ok (.aload_n 0, 1) := by decide +kernel
theorem dX5_note_9 : decode cX5_note 9 = .ok (.getfield 11, 3) := by decide +kernel
theorem dX5_note_12 : decode cX5_note 12 = .ok (.aload_n 0, 1) := by decide +kernel
theorem dX5_note_13 : decode cX5_note 13 = .ok (.getfield 21, 3) := by decide +kernel
theorem dX5_note_16 : decode cX5_note 16 = .ok (.iload_n 1, 1) := by decide +kernel
theorem dX5_note_17 : decode cX5_note 17 = .ok (.iastore, 1) := by decide +kernel
theorem dX5_note_18 : decode cX5_note 18 = .ok (.aload_n 0, 1) := by decide +kernel
theorem dX5_note_19 : decode cX5_note 19 = .ok (.getfield 15, 3) := by decide +kernel
theorem dX5_note_22 : decode cX5_note 22 = .ok (.aload_n 0, 1) := by decide +kernel
theorem dX5_note_23 : decode cX5_note 23 = .ok (.getfield 21, 3) := by decide +kernel
theorem dX5_note_26 : decode cX5_note 26 = .ok (.iload_n 2, 1) := by decide +kernel
theorem dX5_note_27 : decode cX5_note 27 = .ok (.iastore, 1) := by decide +kernel
theorem dX5_note_28 : decode cX5_note 28 = .ok (.aload_n 0, 1) := by decide +kernel
theorem dX5_note_29 : decode cX5_note 29 = .ok (.getfield 18, 3) := by decide +kernel
theorem dX5_note_32 : decode cX5_note 32 = .ok (.aload_n 0, 1) := by decide +kernel
theorem dX5_note_33 : decode cX5_note 33 = .ok (.getfield 21, 3) := by decide +kernel
theorem dX5_note_36 : decode cX5_note 36 = .ok (.iload_n 3, 1) := by decide +kernel
theorem dX5_note_37 : decode cX5_note 37 = .ok (.iastore, 1) := by decide +kernel
theorem dX5_note_38 : decode cX5_note 38 = .ok (.aload_n 0, 1) := by decide +kernel
theorem dX5_note_39 : decode cX5_note 39 = .ok (.dup, 1) := by decide +kernel
theorem dX5_note_40 : decode cX5_note 40 = .ok (.getfield 21, 3) := by decide +kernel
theorem dX5_note_43 : decode cX5_note 43 = .ok (.iconst 1, 1) := by decide +kernel
theorem dX5_note_44 : decode cX5_note 44 = .ok (.iadd, 1) := by decide +kernel
theorem dX5_note_45 : decode cX5_note 45 = .ok (.putfield 21, 3) := by decide +kernel
theorem dX5_note_48 : decode cX5_note 48 = .ok (.return_, 1) := by decide +kernel
theorem dX5_fitting_0 : decode cX5_fitting 0 = .ok (.iconst 0, 1) := by decide +kernel
theorem dX5_fitting_1 : decode cX5_fitting 1 = .ok (.istore_n 1, 1) := by decide +kernel
theorem dX5_fitting_2 : decode cX5_fitting 2 = .ok (.bipush (-5), 2) := by decide +kernel
theorem dX5_fitting_4 : decode cX5_fitting 4 = .ok (.istore_n 2, 1) := by decide +kernel
theorem dX5_fitting_5 : decode cX5_fitting 5 = .ok (.iload_n 2, 1) := by decide +kernel
theorem dX5_fitting_6 : decode cX5_fitting 6 = .ok (.iconst 5, 1) := by decide +kernel
theorem dX5_fitting_7 : decode cX5_fitting 7 = .ok (.if_icmp .gt 29, 3) := by decide +kernel
theorem dX5_fitting_10 : decode cX5_fitting 10 = .ok (.iload_n 1, 1) := by decide +kernel
theorem dX5_fitting_11 : decode cX5_fitting 11 = .ok (.aload_n 0, 1) := by decide +kernel
theorem dX5_fitting_12 : decode cX5_fitting 12 = .ok (.iload_n 2, 1) := by decide +kernel
theorem dX5_fitting_13 : decode cX5_fitting 13 = .ok (.invokevirtual 35, 3) := by decide +kernel
theorem dX5_fitting_16 : decode cX5_fitting 16 = .ok (.ifCond .eq 11, 3) := by decide +kernel
theorem dX5_fitting_19 : decode cX5_fitting 19 = .ok (.iconst 1, 1) := by decide +kernel
theorem dX5_fitting_20 : decode cX5_fitting 20 = .ok (.iload_n 2, 1) := by decide +kernel
theorem dX5_fitting_21 : decode cX5_fitting 21 = .ok (.iconst 5, 1) := by decide +kernel
theorem dX5_fitting_22 : decode cX5_fitting 22 = .ok (.iadd, 1) := by decide +kernel
theorem dX5_fitting_23 : decode cX5_fitting 23 = .ok (.ishl, 1) := by decide +kernel
theorem dX5_fitting_24 : decode cX5_fitting 24 = .ok (.goto 4, 3) := by decide +kernel
theorem dX5_fitting_27 : decode cX5_fitting 27 = .ok (.iconst 0, 1) := by decide +kernel
theorem dX5_fitting_28 : decode cX5_fitting 28 = .ok (.ior, 1) := by decide +kernel
theorem dX5_fitting_29 : decode cX5_fitting 29 = .ok (.istore_n 1, 1) := by decide +kernel
theorem dX5_fitting_30 : decode cX5_fitting 30 = .ok (.iinc 2 1, 3) := by decide +kernel
theorem dX5_fitting_33 : decode cX5_fitting 33 = .ok (.goto (-28), 3) := by decide +kernel
theorem dX5_fitting_36 : decode cX5_fitting 36 = .ok (.iload_n 1, 1) := by decide +kernel
theorem dX5_fitting_37 : decode cX5_fitting 37 = .ok (.ireturn, 1) := by decide +kernel
theorem dX5_fits_0 : decode cX5_fits 0 = .ok (.iconst 0, 1) := by decide +kernel
theorem dX5_fits_1 : decode cX5_fits 1 = .ok (.istore_n 2, 1) := by decide +kernel
theorem dX5_fits_2 : decode cX5_fits 2 = .ok (.iload_n 2, 1) := by decide +kernel
theorem dX5_fits_3 : decode cX5_fits 3 = .ok (.aload_n 0, 1) := by decide +kernel
theorem dX5_fits_4 : decode cX5_fits 4 = .ok (.getfield 21, 3) := by decide +kernel
theorem dX5_fits_7 : decode cX5_fits 7 = .ok (.if_icmp .ge 42, 3) := by decide +kernel
theorem dX5_fits_10 : decode cX5_fits 10 = .ok (.iload_n 2, 1) := by decide +kernel
theorem dX5_fits_11 : decode cX5_fits 11 = .ok (.bipush 8, 2) := by decide +kernel
theorem dX5_fits_13 : decode cX5_fits 13 = .ok (.if_icmp .ge 36, 3) := by decide +kernel
theorem dX5_fits_16 : decode cX5_fits 16 = .ok (.aload_n 0, 1) := by decide +kernel
theorem dX5_fits_17 : decode cX5_fits 17 = .ok (.getfield 11, 3) := by decide +kernel
theorem dX5_fits_20 : decode cX5_fits 20 = .ok (.iload_n 2, 1) := by decide +kernel
theorem dX5_fits_21 : decode cX5_fits 21 = .ok (.iaload, 1) := by decide +kernel
theorem dX5_fits_22 : decode cX5_fits 22 = .ok (.aload_n 0, 1) := by decide +kernel
theorem dX5_fits_23 : decode cX5_fits 23 = .ok (.getfield 15, 3) := by decide +kernel
theorem dX5_fits_26 : decode cX5_fits 26 = .ok (.iload_n 2, 1) := by decide +kernel
theorem dX5_fits_27 : decode cX5_fits 27 = .ok (.iaload, 1) := by decide +kernel
theorem dX5_fits_28 : decode cX5_fits 28 = .ok (.iload_n 1, 1) := by decide +kernel
theorem dX5_fits_29 : decode cX5_fits 29 = .ok (.invokestatic 39, 3) := by decide +kernel
theorem dX5_fits_32 : decode cX5_fits 32 = .ok (.aload_n 0, 1) := by decide +kernel
theorem dX5_fits_33 : decode cX5_fits 33 = .ok (.getfield 18, 3) := by decide +kernel
theorem dX5_fits_36 : decode cX5_fits 36 = .ok (.iload_n 2, 1) := by decide +kernel
theorem dX5_fits_37 : decode cX5_fits 37 = .ok (.iaload, 1) := by decide +kernel
theorem dX5_fits_38 : decode cX5_fits 38 = .ok (.if_icmp .eq 5, 3) := by decide +kernel
theorem dX5_fits_41 : decode cX5_fits 41 = .ok (.iconst 0, 1) := by decide +kernel
theorem dX5_fits_42 : decode cX5_fits 42 = .ok (.ireturn, 1) := by decide +kernel
theorem dX5_fits_43 : decode cX5_fits 43 = .ok (.iinc 2 1, 3) := by decide +kernel
theorem dX5_fits_46 : decode cX5_fits 46 = .ok (.goto (-44), 3) := by decide +kernel
theorem dX5_fits_49 : decode cX5_fits 49 = .ok (.iconst 1, 1) := by decide +kernel
theorem dX5_fits_50 : decode cX5_fits 50 = .ok (.ireturn, 1) := by decide +kernel
theorem dX5_laterIll_0 : decode cX5_laterIll 0 = .ok (.iload_n 0, 1) := by decide +kernel
theorem dX5_laterIll_1 : decode cX5_laterIll 1 = .ok (.istore_n 3, 1) := by decide +kernel
theorem dX5_laterIll_2 : decode cX5_laterIll 2 = .ok (.iconst 0, 1) := by decide +kernel
theorem dX5_laterIll_3 : decode cX5_laterIll 3 = .ok (.istore 4, 2) := by decide +kernel
theorem dX5_laterIll_5 : decode cX5_laterIll 5 = .ok (.iload 4, 2) := by decide +kernel
theorem dX5_laterIll_7 : decode cX5_laterIll 7 = .ok (.iload_n 1, 1) := by decide +kernel
theorem dX5_laterIll_8 : decode cX5_laterIll 8 = .ok (.if_icmp .ge 16, 3) := by decide +kernel
theorem dX5_laterIll_11 : decode cX5_laterIll 11 = .ok (.iload_n 3, 1) := by decide +kernel
theorem dX5_laterIll_12 : decode cX5_laterIll 12 = .ok (.iload_n 2, 1) := by decide +kernel
theorem dX5_laterIll_13 : decode cX5_laterIll 13 = .ok (.iadd, 1) := by decide +kernel
theorem dX5_laterIll_14 : decode cX5_laterIll 14 = .ok (.invokestatic 43, 3) := by decide +kernel
theorem dX5_laterIll_17 : decode cX5_laterIll 17 = .ok (.istore_n 3, 1) := by decide +kernel
theorem dX5_laterIll_18 : decode cX5_laterIll 18 = .ok (.iinc 4 1, 3) := by decide +kernel
theorem dX5_laterIll_21 : decode cX5_laterIll 21 = .ok (.goto (-16), 3) := by decide +kernel
theorem dX5_laterIll_24 : decode cX5_laterIll 24 = .ok (.iload_n 3, 1) := by decide +kernel
theorem dX5_laterIll_25 : decode cX5_laterIll 25 = .ok (.ireturn, 1) := by decide +kernel
theorem dX6_init_0 : decode cX6_init 0 = .ok (.aload_n 0, 1) := by decide +kernel
theorem dX6_init_1 : decode cX6_init 1 = .ok (.invokespecial 3, 3) := by decide +kernel
theorem dX6_init_4 : decode cX6_init 4 = .ok (.aload_n 0, 1) := by decide +kernel
theorem dX6_init_5 : decode cX6_init 5 = .ok (.new 9, 3) := by decide +kernel
theorem dX6_init_8 : decode cX6_init 8 = .ok (.dup, 1) := by decide +kernel
theorem dX6_init_9 : decode cX6_init 9 = .ok (.invokespecial 11, 3) := by decide +kernel
theorem dX6_init_12 : decode cX6_init 12 = .ok (.putfield 12, 3) := by decide +kernel
theorem dX6_init_15 : decode cX6_init 15 = .ok (.return_, 1) := by decide +kernel
theorem dX6_follow_0 : decode cX6_follow 0 = .ok (.aload_n 0, 1) := by decide +kernel
theorem dX6_follow_1 : decode cX6_follow 1 = .ok (.aload_n 2, 1) := by decide +kernel
theorem dX6_follow_2 : decode cX6_follow 2 = .ok (.invokevirtual 18, 3) := by decide +kernel
theorem dX6_follow_5 : decode cX6_follow 5 = .ok (.iconst (-1), 1) := by decide +kernel
theorem dX6_follow_6 : decode cX6_follow 6 = .ok (.istore_n 3, 1) := by decide +kernel
theorem dX6_follow_7 : decode cX6_follow 7 = .ok (.iconst 0, 1) := by decide +kernel
theorem dX6_follow_8 : decode cX6_follow 8 = .ok (.istore 4, 2) := by decide +kernel
theorem dX6_follow_10 : decode cX6_follow 10 = .ok (.iload 4, 2) := by decide +kernel
theorem dX6_follow_12 : decode cX6_follow 12 = .ok (.aload_n 1, 1) := by decide +kernel
theorem dX6_follow_13 : decode cX6_follow 13 = .ok (.getfield 22, 3) := by decide +kernel
theorem dX6_follow_16 : decode cX6_follow 16 = .ok (.if_icmp .ge 51, 3) := by decide +kernel
theorem dX6_follow_19 : decode cX6_follow 19 = .ok (.aload_n 0, 1) := by decide +kernel
theorem dX6_follow_20 : decode cX6_follow 20 = .ok (.getfield 28, 3) := by decide +kernel
theorem dX6_follow_23 : decode cX6_follow 23 = .ok (.ifCond .ne 44, 3) := by decide +kernel
theorem dX6_follow_26 : decode cX6_follow 26 = .ok (.aload_n 1, 1) := by decide +kernel
theorem dX6_follow_27 : decode cX6_follow 27 = .ok (.iload 4, 2) := by decide +kernel
theorem dX6_follow_29 : decode cX6_follow 29 = .ok (.invokevirtual 31, 3) := by decide +kernel
theorem dX6_follow_32 : decode cX6_follow 32 = .ok (.istore 5, 2) := by decide +kernel
theorem dX6_follow_34 : decode cX6_follow 34 = .ok (.iload 5, 2) := by decide +kernel
theorem dX6_follow_36 : decode cX6_follow 36 = .ok (.invokestatic 35, 3) := by decide +kernel
theorem dX6_follow_39 : decode cX6_follow 39 = .ok (.ifCond .eq 12, 3) := by decide +kernel
theorem dX6_follow_42 : decode cX6_follow 42 = .ok (.iload 5, 2) := by decide +kernel
theorem dX6_follow_44 : decode cX6_follow 44 = .ok (.bipush 65, 2) := by decide +kernel
theorem dX6_follow_46 : decode cX6_follow 46 = .ok (.isub, 1) := by decide +kernel
theorem dX6_follow_47 : decode cX6_follow 47 = .ok (.istore_n 3, 1) := by decide +kernel
theorem dX6_follow_48 : decode cX6_follow 48 = .ok (.goto 13, 3) := by decide +kernel
theorem dX6_follow_51 : decode cX6_follow 51 = .ok (.aload_n 0, 1) := by decide +kernel
theorem dX6_follow_52 : decode cX6_follow 52 = .ok (.iload_n 3, 1) := by decide +kernel
theorem dX6_follow_53 : decode cX6_follow 53 = .ok (.iload 5, 2) := by decide +kernel
theorem dX6_follow_55 : decode cX6_follow 55 = .ok (.invokestatic 39, 3) := by decide +kernel
theorem dX6_follow_58 : decode cX6_follow 58 = .ok (.invokevirtual 42, 3) := by decide +kernel
theorem dX6_follow_61 : decode cX6_follow 61 = .ok (.iinc 4 1, 3) := by decide +kernel
theorem dX6_follow_64 : decode cX6_follow 64 = .ok (.goto (-54), 3) := by decide +kernel
theorem dX6_follow_67 : decode cX6_follow 67 = .ok (.return_, 1) := by decide +kernel
theorem dX6_drift_0 : decode cX6_drift 0 = .ok (.aload_n 0, 1) := by decide +kernel
theorem dX6_drift_1 : decode cX6_drift 1 = .ok (.aload_n 1, 1) := by decide +kernel
theorem dX6_drift_2 : decode cX6_drift 2 = .ok (.invokevirtual 18, 3) := by decide +kernel
theorem dX6_drift_5 : decode cX6_drift 5 = .ok (.iload_n 2, 1) := by decide +kernel
theorem dX6_drift_6 : decode cX6_drift 6 = .ok (.istore 4, 2) := by decide +kernel
theorem dX6_drift_8 : decode cX6_drift 8 = .ok (.iconst 0, 1) := by decide +kernel
theorem dX6_drift_9 : decode cX6_drift 9 = .ok (.istore 5, 2) := by decide +kernel
theorem dX6_drift_11 : decode cX6_drift 11 = .ok (.iload 5, 2) := by decide +kernel
theorem dX6_drift_13 : decode cX6_drift 13 = .ok (.iload_n 3, 1) := by decide +kernel
theorem dX6_drift_14 : decode cX6_drift 14 = .ok (.if_icmp .ge 39, 3) := by decide +kernel
theorem dX6_drift_17 : decode cX6_drift 17 = .ok (.bipush 75, 2) := by decide +kernel
theorem dX6_drift_19 : decode cX6_drift 19 = .ok (.iload 4, 2) := by decide +kernel
theorem dX6_drift_21 : decode cX6_drift 21 = .ok (.imul, 1) := by decide +kernel
theorem dX6_drift_22 : decode cX6_drift 22 = .ok (.bipush 74, 2) := by decide +kernel
theorem dX6_drift_24 : decode cX6_drift 24 = .ok (.iadd, 1) := by decide +kernel
theorem dX6_drift_25 : decode cX6_drift 25 = .ok (.ldc 46, 2) := by decide +kernel
theorem dX6_drift_27 : decode cX6_drift 27 = .ok (.irem, 1) := by decide +kernel
theorem dX6_drift_28 : decode cX6_drift 28 = .ok (.istore 4, 2) := by decide +kernel
theorem dX6_drift_30 : decode cX6_drift 30 = .ok (.aload_n 0, 1) := by decide +kernel
theorem dX6_drift_31 : decode cX6_drift 31 = .ok (.iload 4, 2) := by decide +kernel
theorem dX6_drift_33 : decode cX6_drift 33 = .ok (.bipush 8, 2) := by decide +kernel
theorem dX6_drift_35 : decode cX6_drift 35 = .ok (.idiv, 1) := by decide +kernel
theorem dX6_drift_36 : decode cX6_drift 36 = .ok (.bipush 6, 2) := by decide +kernel
theorem dX6_drift_38 : decode cX6_drift 38 = .ok (.irem, 1) := by decide +kernel
theorem dX6_drift_39 : decode cX6_drift 39 = .ok (.iload 4, 2) := by decide +kernel
theorem dX6_drift_41 : decode cX6_drift 41 = .ok (.invokestatic 47, 3) := by decide +kernel
theorem dX6_drift_44 : decode cX6_drift 44 = .ok (.invokevirtual 42, 3) := by decide +kernel
theorem dX6_drift_47 : decode cX6_drift 47 = .ok (.iinc 5 1, 3) := by decide +kernel
theorem dX6_drift_50 : decode cX6_drift 50 = .ok (.goto (-39), 3) := by decide +kernel
theorem dX6_drift_53 : decode cX6_drift 53 = .ok (.return_, 1) := by decide +kernel
theorem dX6_drawnAim_0 : decode cX6_drawnAim 0 = .ok (.iload_n 0, 1) := by decide +kernel
theorem dX6_drawnAim_1 : decode cX6_drawnAim 1 = .ok (.bipush 8, 2) := by decide +kernel
theorem dX6_drawnAim_3 : decode cX6_drawnAim 3 = .ok (.irem, 1) := by decide +kernel
theorem dX6_drawnAim_4 : decode cX6_drawnAim 4 = .ok (.istore_n 1, 1) := by decide +kernel
theorem dX6_drawnAim_5 : decode cX6_drawnAim 5 = .ok (.iload_n 1, 1) := by decide +kernel
theorem dX6_drawnAim_6 : decode cX6_drawnAim 6 = .ok (.iconst 4, 1) := by decide +kernel
theorem dX6_drawnAim_7 : decode cX6_drawnAim 7 = .ok (.if_icmp .ge 5, 3) := by decide +kernel
theorem dX6_drawnAim_10 : decode cX6_drawnAim 10 = .ok (.iconst 5, 1) := by decide +kernel
theorem dX6_drawnAim_11 : decode cX6_drawnAim 11 = .ok (.ireturn, 1) := by decide +kernel
theorem dX6_drawnAim_12 : decode cX6_drawnAim 12 = .ok (.iload_n 1, 1) := by decide +kernel
theorem dX6_drawnAim_13 : decode cX6_drawnAim 13 = .ok (.bipush 6, 2) := by decide +kernel
theorem dX6_drawnAim_15 : decode cX6_drawnAim 15 = .ok (.if_icmp .ge 7, 3) := by decide +kernel
theorem dX6_drawnAim_18 : decode cX6_drawnAim 18 = .ok (.iconst 4, 1) := by decide +kernel
theorem dX6_drawnAim_19 : decode cX6_drawnAim 19 = .ok (.goto 9, 3) := by decide +kernel
theorem dX6_drawnAim_22 : decode cX6_drawnAim 22 = .ok (.iload_n 0, 1) := by decide +kernel
theorem dX6_drawnAim_23 : decode cX6_drawnAim 23 = .ok (.bipush 48, 2) := by decide +kernel
theorem dX6_drawnAim_25 : decode cX6_drawnAim 25 = .ok (.idiv, 1) := by decide +kernel
theorem dX6_drawnAim_26 : decode cX6_drawnAim 26 = .ok (.iconst 4, 1) := by decide +kernel
theorem dX6_drawnAim_27 : decode cX6_drawnAim 27 = .ok (.irem, 1) := by decide +kernel
theorem dX6_drawnAim_28 : decode cX6_drawnAim 28 = .ok (.ireturn, 1) := by decide +kernel
theorem dX6_start_0 : decode cX6_start 0 = .ok (.aload_n 0, 1) := by decide +kernel
theorem dX6_start_1 : decode cX6_start 1 = .ok (.getfield 12, 3) := by decide +kernel
theorem dX6_start_4 : decode cX6_start 4 = .ok (.aload_n 1, 1) := by decide +kernel
theorem dX6_start_5 : decode cX6_start 5 = .ok (.invokevirtual 50, 3) := by decide +kernel
theorem dX6_start_8 : decode cX6_start 8 = .ok (.aload_n 0, 1) := by decide +kernel
theorem dX6_start_9 : decode cX6_start 9 = .ok (.iconst 0, 1) := by decide +kernel
theorem dX6_start_10 : decode cX6_start 10 = .ok (.putfield 53, 3) := by decide +kernel
theorem dX6_start_13 : decode cX6_start 13 = .ok (.aload_n 0, 1) := by decide +kernel
theorem dX6_start_14 : decode cX6_start 14 = .ok (.iconst 0, 1) := by decide +kernel
theorem dX6_start_15 : decode cX6_start 15 = .ok (.putfield 28, 3) := by decide +kernel
theorem dX6_start_18 : decode cX6_start 18 = .ok (.aload_n 0, 1) := by decide +kernel
theorem dX6_start_19 : decode cX6_start 19 = .ok (.iconst 0, 1) := by decide +kernel
theorem dX6_start_20 : decode cX6_start 20 = .ok (.putfield 56, 3) := by decide +kernel
theorem dX6_start_23 : decode cX6_start 23 = .ok (.aload_n 0, 1) := by decide +kernel
theorem dX6_start_24 : decode cX6_start 24 = .ok (.bipush (-6), 2) := by decide +kernel
theorem dX6_start_26 : decode cX6_start 26 = .ok (.putfield 59, 3) := by decide +kernel
theorem dX6_start_29 : decode cX6_start 29 = .ok (.aload_n 0, 1) := by decide +kernel
theorem dX6_start_30 : decode cX6_start 30 = .ok (.bipush (-6), 2) := by decide +kernel
theorem dX6_start_32 : decode cX6_start 32 = .ok (.putfield 62, 3) := by decide +kernel
theorem dX6_start_35 : decode cX6_start 35 = .ok (.return_, 1) := by decide +kernel
theorem dX6_attempt_0 : decode cX6_attempt 0 = .ok (.aload_n 0, 1) := by decide +kernel
theorem dX6_attempt_1 : decode cX6_attempt 1 = .ok (.aload_n 0, 1) := by decide +kernel
theorem dX6_attempt_2 : decode cX6_attempt 2 = .ok (.getfield 12, 3) := by decide +kernel
theorem dX6_attempt_5 : decode cX6_attempt 5 = .ok (.iload_n 1, 1) := by decide +kernel
theorem dX6_attempt_6 : decode cX6_attempt 6 = .ok (.iload_n 2, 1) := by decide +kernel
theorem dX6_attempt_7 : decode cX6_attempt 7 = .ok (.invokevirtual 65, 3) := by decide +kernel
theorem dX6_attempt_10 : decode cX6_attempt 10 = .ok (.putfield 28, 3) := by decide +kernel
theorem dX6_attempt_13 : decode cX6_attempt 13 = .ok (.aload_n 0, 1) := by decide +kernel
theorem dX6_attempt_14 : decode cX6_attempt 14 = .ok (.getfield 28, 3) := by decide +kernel
theorem dX6_attempt_17 : decode cX6_attempt 17 = .ok (.ifCond .eq 4, 3) := by decide +kernel
theorem dX6_attempt_20 : decode cX6_attempt 20 = .ok (.return_, 1) := by decide +kernel
theorem dX6_attempt_21 : decode cX6_attempt 21 = .ok (.iload_n 2, 1) := by decide +kernel
theorem dX6_attempt_22 : decode cX6_attempt 22 = .ok (.iconst 5, 1) := by decide +kernel
theorem dX6_attempt_23 : decode cX6_attempt 23 = .ok (.if_icmp .ne 17, 3) := by decide +kernel
theorem dX6_attempt_26 : decode cX6_attempt 26 = .ok (.aload_n 0, 1) := by decide +kernel
theorem dX6_attempt_27 : decode cX6_attempt 27 = .ok (.aload_n 0, 1) := by decide +kernel
theorem dX6_attempt_28 : decode cX6_attempt 28 = .ok (.getfield 12, 3) := by decide +kernel
theorem dX6_attempt_31 : decode cX6_attempt 31 = .ok (.invokevirtual 69, 3) := by decide +kernel
theorem dX6_attempt_34 : decode cX6_attempt 34 = .ok (.invokevirtual 73, 3) := by decide +kernel
theorem dX6_attempt_37 : decode cX6_attempt 37 = .ok (.goto 12, 3) := by decide +kernel
theorem dX6_attempt_40 : decode cX6_attempt 40 = .ok (.aload_n 0, 1) := by decide +kernel
theorem dX6_attempt_41 : decode cX6_attempt 41 = .ok (.getfield 12, 3) := by decide +kernel
theorem dX6_attempt_44 : decode cX6_attempt 44 = .ok (.iload_n 1, 1) := by decide +kernel
theorem dX6_attempt_45 : decode cX6_attempt 45 = .ok (.iload_n 2, 1) := by decide +kernel
theorem dX6_attempt_46 : decode cX6_attempt 46 = .ok (.invokevirtual 77, 3) := by decide +kernel
theorem dX6_attempt_49 : decode cX6_attempt 49 = .ok (.aload_n 0, 1) := by decide +kernel
theorem dX6_attempt_50 : decode cX6_attempt 50 = .ok (.dup, 1) := by decide +kernel
theorem dX6_attempt_51 : decode cX6_attempt 51 = .ok (.getfield 53, 3) := by decide +kernel
theorem dX6_attempt_54 : decode cX6_attempt 54 = .ok (.iconst 1, 1) := by decide +kernel
theorem dX6_attempt_55 : decode cX6_attempt 55 = .ok (.iadd, 1) := by decide +kernel
theorem dX6_attempt_56 : decode cX6_attempt 56 = .ok (.putfield 53, 3) := by decide +kernel
theorem dX6_attempt_59 : decode cX6_attempt 59 = .ok (.return_, 1) := by decide +kernel
theorem dX6_noteHour_0 : decode cX6_noteHour 0 = .ok (.aload_n 0, 1) := by decide +kernel
theorem dX6_noteHour_1 : decode cX6_noteHour 1 = .ok (.getfield 59, 3) := by decide +kernel
theorem dX6_noteHour_4 : decode cX6_noteHour 4 = .ok (.bipush (-6), 2) := by decide +kernel
theorem dX6_noteHour_6 : decode cX6_noteHour 6 = .ok (.if_icmp .ne 22, 3) := by decide +kernel
theorem dX6_noteHour_9 : decode cX6_noteHour 9 = .ok (.iload_n 1, 1) := by decide +kernel
theorem dX6_noteHour_10 : decode cX6_noteHour 10 = .ok (.bipush (-6), 2) := by decide +kernel
theorem dX6_noteHour_12 : decode cX6_noteHour 12 = .ok (.if_icmp .eq 16, 3) := by decide +kernel
theorem dX6_noteHour_15 : decode cX6_noteHour 15 = .ok (.aload_n 0, 1) := by decide +kernel
theorem dX6_noteHour_16 : decode cX6_noteHour 16 = .ok (.aload_n 0, 1) := by decide +kernel
theorem dX6_noteHour_17 : decode cX6_noteHour 17 = .ok (.getfield 56, 3) := by decide +kernel
theorem dX6_noteHour_20 : decode cX6_noteHour 20 = .ok (.putfield 59, 3) := by decide +kernel
theorem dX6_noteHour_23 : decode cX6_noteHour 23 = .ok (.aload_n 0, 1) := by decide +kernel
theorem dX6_noteHour_24 : decode cX6_noteHour 24 = .ok (.iload_n 1, 1) := by decide +kernel
theorem dX6_noteHour_25 : decode cX6_noteHour 25 = .ok (.putfield 62, 3) := by decide +kernel
theorem dX6_noteHour_28 : decode cX6_noteHour 28 = .ok (.aload_n 0, 1) := by decide +kernel
theorem dX6_noteHour_29 : decode cX6_noteHour 29 = .ok (.dup, 1) := by decide +kernel
theorem dX6_noteHour_30 : decode cX6_noteHour 30 = .ok (.getfield 56, 3) := by decide +kernel
theorem dX6_noteHour_33 : decode cX6_noteHour 33 = .ok (.iconst 1, 1) := by decide +kernel
theorem dX6_noteHour_34 : decode cX6_noteHour 34 = .ok (.iadd, 1) := by decide +kernel
theorem dX6_noteHour_35 : decode cX6_noteHour 35 = .ok (.putfield 56, 3) := by decide +kernel
theorem dX6_noteHour_38 : decode cX6_noteHour 38 = .ok (.return_, 1) := by decide +kernel
theorem dX7_init_0 : decode cX7_init 0 = .ok (.aload_n 0, 1) := by decide +kernel
theorem dX7_init_1 : decode cX7_init 1 = .ok (.invokespecial 3, 3) := by decide +kernel
theorem dX7_init_4 : decode cX7_init 4 = .ok (.aload_n 0, 1) := by decide +kernel
theorem dX7_init_5 : decode cX7_init 5 = .ok (.new 9, 3) := by decide +kernel
theorem dX7_init_8 : decode cX7_init 8 = .ok (.dup, 1) := by decide +kernel
theorem dX7_init_9 : decode cX7_init 9 = .ok (.invokespecial 11, 3) := by decide +kernel
theorem dX7_init_12 : decode cX7_init 12 = .ok (.putfield 12, 3) := by decide +kernel
theorem dX7_init_15 : decode cX7_init 15 = .ok (.aload_n 0, 1) := by decide +kernel
theorem dX7_init_16 : decode cX7_init 16 = .ok (.iconst 2, 1) := by decide +kernel
theorem dX7_init_17 : decode cX7_init 17 = .ok (.anewarray 9, 3) := by decide +kernel
theorem dX7_init_20 : decode cX7_init 20 = .ok (.putfield 16, 3) := by decide +kernel
theorem dX7_init_23 : decode cX7_init 23 = .ok (.aload_n 0, 1) := by decide +kernel
theorem dX7_init_24 : decode cX7_init 24 = .ok (.new 20, 3) := by decide +kernel
theorem dX7_init_27 : decode cX7_init 27 = .ok (.dup, 1) := by decide +kernel
theorem dX7_init_28 : decode cX7_init 28 = .ok (.invokespecial 22, 3) := by decide +kernel
theorem dX7_init_31 : decode cX7_init 31 = .ok (.putfield 23, 3) := by decide +kernel
theorem dX7_init_34 : decode cX7_init 34 = .ok (.aload_n 0, 1) := by decide +kernel
theorem dX7_init_35 : decode cX7_init 35 = .ok (.new 27, 3) := by decide +kernel
theorem dX7_init_38 : decode cX7_init 38 = .ok (.dup, 1) := by decide +kernel
theorem dX7_init_39 : decode cX7_init 39 = .ok (.invokespecial 29, 3) := by decide +kernel
theorem dX7_init_42 : decode cX7_init 42 = .ok (.putfield 30, 3) := by decide +kernel
theorem dX7_init_45 : decode cX7_init 45 = .ok (.aload_n 0, 1) := by decide +kernel
theorem dX7_init_46 : decode cX7_init 46 = .ok (.new 34, 3) := by decide +kernel
theorem dX7_init_49 : decode cX7_init 49 = .ok (.dup, 1) := by decide +kernel
theorem dX7_init_50 : decode cX7_init 50 = .ok (.invokespecial 36, 3) := by decide +kernel
theorem dX7_init_53 : decode cX7_init 53 = .ok (.putfield 37, 3) := by decide +kernel
theorem dX7_init_56 : decode cX7_init 56 = .ok (.aload_n 0, 1) := by decide +kernel
theorem dX7_init_57 : decode cX7_init 57 = .ok (.new 41, 3) := by decide +kernel
theorem dX7_init_60 : decode cX7_init 60 = .ok (.dup, 1) := by decide +kernel
theorem dX7_init_61 : decode cX7_init 61 = .ok (.invokespecial 43, 3) := by decide +kernel
theorem dX7_init_64 : decode cX7_init 64 = .ok (.putfield 44, 3) := by decide +kernel
theorem dX7_init_67 : decode cX7_init 67 = .ok (.aload_n 0, 1) := by decide +kernel
theorem dX7_init_68 : decode cX7_init 68 = .ok (.new 48, 3) := by decide +kernel
theorem dX7_init_71 : decode cX7_init 71 = .ok (.dup, 1) := by decide +kernel
theorem dX7_init_72 : decode cX7_init 72 = .ok (.invokespecial 50, 3) := by decide +kernel
theorem dX7_init_75 : decode cX7_init 75 = .ok (.putfield 51, 3) := by decide +kernel
theorem dX7_init_78 : decode cX7_init 78 = .ok (.return_, 1) := by decide +kernel
theorem dX7_piece_0 : decode cX7_piece 0 = .ok (.iload_n 1, 1) := by decide +kernel
theorem dX7_piece_1 : decode cX7_piece 1 = .ok (.bipush 6, 2) := by decide +kernel
theorem dX7_piece_3 : decode cX7_piece 3 = .ok (.invokestatic 55, 3) := by decide +kernel
theorem dX7_piece_6 : decode cX7_piece 6 = .ok (.ifCond .ne 5, 3) := by decide +kernel
theorem dX7_piece_9 : decode cX7_piece 9 = .ok (.iconst (-1), 1) := by decide +kernel
theorem dX7_piece_10 : decode cX7_piece 10 = .ok (.ireturn, 1) := by decide +kernel
theorem dX7_piece_11 : decode cX7_piece 11 = .ok (.iload_n 2, 1) := by decide +kernel
theorem dX7_piece_12 : decode cX7_piece 12 = .ok (.iconst 0, 1) := by decide +kernel
theorem dX7_piece_13 : decode cX7_piece 13 = .ok (.bipush 20, 2) := by decide +kernel
theorem dX7_piece_15 : decode cX7_piece 15 = .ok (.invokestatic 59, 3) := by decide +kernel
theorem dX7_piece_18 : decode cX7_piece 18 = .ok (.ifCond .eq 24, 3) := by decide +kernel
theorem dX7_piece_21 : decode cX7_piece 21 = .ok (.iload_n 3, 1) := by decide +kernel
theorem dX7_piece_22 : decode cX7_piece 22 = .ok (.iconst 0, 1) := by decide +kernel
theorem dX7_piece_23 : decode cX7_piece 23 = .ok (.bipush 20, 2) := by decide +kernel
theorem dX7_piece_25 : decode cX7_piece 25 = .ok (.invokestatic 59, 3) := by decide +kernel
theorem dX7_piece_28 : decode cX7_piece 28 = .ok (.ifCond .eq 14, 3) := by decide +kernel
theorem dX7_piece_31 : decode cX7_piece 31 = .ok (.iload 4, 2) := by decide +kernel
theorem dX7_piece_33 : decode cX7_piece 33 = .ok (.iconst 0, 1) := by decide +kernel
theorem dX7_piece_34 : decode cX7_piece 34 = .ok (.bipush 20, 2) := by decide +kernel
theorem dX7_piece_36 : decode cX7_piece 36 = .ok (.invokestatic 59, 3) := by decide +kernel
theorem dX7_piece_39 : decode cX7_piece 39 = .ok (.ifCond .ne 6, 3) := by decide +kernel
theorem dX7_piece_42 : decode cX7_piece 42 = .ok (.bipush (-2), 2) := by decide +kernel
theorem dX7_piece_44 : decode cX7_piece 44 = .ok (.ireturn, 1) := by decide +kernel
theorem dX7_piece_45 : decode cX7_piece 45 = .ok (.aload_n 0, 1) := by decide +kernel
theorem dX7_piece_46 : decode cX7_piece 46 = .ok (.getfield 12, 3) := by decide +kernel
theorem dX7_piece_49 : decode cX7_piece 49 = .ok (.iload_n 1, 1) := by decide +kernel
theorem dX7_piece_50 : decode cX7_piece 50 = .ok (.iload_n 2, 1) := by decide +kernel
theorem dX7_piece_51 : decode cX7_piece 51 = .ok (.iload_n 3, 1) := by decide +kernel
theorem dX7_piece_52 : decode cX7_piece 52 = .ok (.iload 4, 2) := by decide +kernel
theorem dX7_piece_54 : decode cX7_piece 54 = .ok (.invokevirtual 63, 3) := by decide +kernel
theorem dX7_piece_57 : decode cX7_piece 57 = .ok (.aload_n 0, 1) := by decide +kernel
theorem dX7_piece_58 : decode cX7_piece 58 = .ok (.getfield 12, 3) := by decide +kernel
theorem dX7_piece_61 : decode cX7_piece 61 = .ok (.getfield 67, 3) := by decide +kernel
theorem dX7_piece_64 : decode cX7_piece 64 = .ok (.invokestatic 71, 3) := by decide +kernel
theorem dX7_piece_67 : decode cX7_piece 67 = .ok (.ireturn, 1) := by decide +kernel
theorem dX7_leave_0 : decode cX7_leave 0 = .ok (.aload_n 0, 1) := by decide +kernel
theorem dX7_leave_1 : decode cX7_leave 1 = .ok (.getfield 12, 3) := by decide +kernel
theorem dX7_leave_4 : decode cX7_leave 4 = .ok (.iload_n 1, 1) := by decide +kernel
theorem dX7_leave_5 : decode cX7_leave 5 = .ok (.invokevirtual 77, 3) := by decide +kernel
theorem dX7_leave_8 : decode cX7_leave 8 = .ok (.ifCond .ne 5, 3) := by decide +kernel
theorem dX7_leave_11 : decode cX7_leave 11 = .ok (.iconst (-1), 1) := by decide +kernel
theorem dX7_leave_12 : decode cX7_leave 12 = .ok (.ireturn, 1) := by decide +kernel
theorem dX7_leave_13 : decode cX7_leave 13 = .ok (.aload_n 0, 1) := by decide +kernel
theorem dX7_leave_14 : decode cX7_leave 14 = .ok (.getfield 12, 3) := by decide +kernel
theorem dX7_leave_17 : decode cX7_leave 17 = .ok (.iload_n 1, 1) := by decide +kernel
theorem dX7_leave_18 : decode cX7_leave 18 = .ok (.invokevirtual 81, 3) := by decide +kernel
theorem dX7_leave_21 : decode cX7_leave 21 = .ok (.aload_n 0, 1) := by decide +kernel
theorem dX7_leave_22 : decode cX7_leave 22 = .ok (.getfield 12, 3) := by decide +kernel
theorem dX7_leave_25 : decode cX7_leave 25 = .ok (.getfield 67, 3) := by decide +kernel
theorem dX7_leave_28 : decode cX7_leave 28 = .ok (.invokestatic 71, 3) := by decide +kernel
theorem dX7_leave_31 : decode cX7_leave 31 = .ok (.ireturn, 1) := by decide +kernel
theorem dX7_room_0 : decode cX7_room 0 = .ok (.iload_n 1, 1) := by decide +kernel
theorem dX7_room_1 : decode cX7_room 1 = .ok (.iconst 4, 1) := by decide +kernel
theorem dX7_room_2 : decode cX7_room 2 = .ok (.invokestatic 55, 3) := by decide +kernel
theorem dX7_room_5 : decode cX7_room 5 = .ok (.ifCond .ne 5, 3) := by decide +kernel
theorem dX7_room_8 : decode cX7_room 8 = .ok (.iconst (-1), 1) := by decide +kernel
theorem dX7_room_9 : decode cX7_room 9 = .ok (.ireturn, 1) := by decide +kernel
theorem dX7_room_10 : decode cX7_room 10 = .ok (.iload_n 2, 1) := by decide +kernel
theorem dX7_room_11 : decode cX7_room 11 = .ok (.iconst 3, 1) := by decide +kernel
theorem dX7_room_12 : decode cX7_room 12 = .ok (.invokestatic 55, 3) := by decide +kernel
theorem dX7_room_15 : decode cX7_room 15 = .ok (.ifCond .eq 13, 3) := by decide +kernel
theorem dX7_room_18 : decode cX7_room 18 = .ok (.iload_n 3, 1) := by decide +kernel
theorem dX7_room_19 : decode cX7_room 19 = .ok (.bipush (-5), 2) := by decide +kernel
theorem dX7_room_21 : decode cX7_room 21 = .ok (.iconst 5, 1) := by decide +kernel
theorem dX7_room_22 : decode cX7_room 22 = .ok (.invokestatic 59, 3) := by decide +kernel
theorem dX7_room_25 : decode cX7_room 25 = .ok (.ifCond .ne 6, 3) := by decide +kernel
theorem dX7_room_28 : decode cX7_room 28 = .ok (.bipush (-2), 2) := by decide +kernel
theorem dX7_room_30 : decode cX7_room 30 = .ok (.ireturn, 1) := by decide +kernel
theorem dX7_room_31 : decode cX7_room 31 = .ok (.iload_n 1, 1) := by decide +kernel
theorem dX7_room_32 : decode cX7_room 32 = .ok (.iconst 3, 1) := by decide +kernel
theorem dX7_room_33 : decode cX7_room 33 = .ok (.imul, 1) := by decide +kernel
theorem dX7_room_34 : decode cX7_room 34 = .ok (.iload_n 2, 1) := by decide +kernel
theorem dX7_room_35 : decode cX7_room 35 = .ok (.iadd, 1) := by decide +kernel
theorem dX7_room_36 : decode cX7_room 36 = .ok (.istore 4, 2) := by decide +kernel
theorem dX7_room_38 : decode cX7_room 38 = .ok (.aload_n 0, 1) := by decide +kernel
theorem dX7_room_39 : decode cX7_room 39 = .ok (.getfield 12, 3) := by decide +kernel
theorem dX7_room_42 : decode cX7_room 42 = .ok (.getfield 85, 3) := by decide +kernel
theorem dX7_room_45 : decode cX7_room 45 = .ok (.iload 4, 2) := by decide +kernel
theorem dX7_room_47 : decode cX7_room 47 = .ok (.iaload, 1) := by decide +kernel
theorem dX7_room_48 : decode cX7_room 48 = .ok (.istore 5, 2) := by decide +kernel
theorem dX7_room_50 : decode cX7_room 50 = .ok (.aload_n 0, 1) := by decide +kernel
theorem dX7_room_51 : decode cX7_room 51 = .ok (.getfield 12, 3) := by decide +kernel
theorem dX7_room_54 : decode cX7_room 54 = .ok (.getfield 85, 3) := by decide +kernel
theorem dX7_room_57 : decode cX7_room 57 = .ok (.iload 4, 2) := by decide +kernel
theorem dX7_room_59 : decode cX7_room 59 = .ok (.iload_n 3, 1) := by decide +kernel
theorem dX7_room_60 : decode cX7_room 60 = .ok (.iastore, 1) := by decide +kernel
theorem dX7_room_61 : decode cX7_room 61 = .ok (.iload 5, 2) := by decide +kernel
theorem dX7_room_63 : decode cX7_room 63 = .ok (.bipush 10, 2) := by decide +kernel
theorem dX7_room_65 : decode cX7_room 65 = .ok (.iadd, 1) := by decide +kernel
theorem dX7_room_66 : decode cX7_room 66 = .ok (.ireturn, 1) := by decide +kernel
theorem dX7_bad_0 : decode cX7_bad 0 = .ok (.iload_n 1, 1) := by decide +kernel
theorem dX7_bad_1 : decode cX7_bad 1 = .ok (.bipush 6, 2) := by decide +kernel
theorem dX7_bad_3 : decode cX7_bad 3 = .ok (.invokestatic 55, 3) := by decide +kernel
theorem dX7_bad_6 : decode cX7_bad 6 = .ok (.ifCond .eq 17, 3) := by decide +kernel
theorem dX7_bad_9 : decode cX7_bad 9 = .ok (.iload_n 2, 1) := by decide +kernel
theorem dX7_bad_10 : decode cX7_bad 10 = .ok (.bipush 6, 2) := by decide +kernel
theorem dX7_bad_12 : decode cX7_bad 12 = .ok (.invokestatic 55, 3) := by decide +kernel
theorem dX7_bad_15 : decode cX7_bad 15 = .ok (.ifCond .eq 8, 3) := by decide +kernel
theorem dX7_bad_18 : decode cX7_bad 18 = .ok (.iload_n 1, 1) := by decide +kernel
theorem dX7_bad_19 : decode cX7_bad 19 = .ok (.iload_n 2, 1) := by decide +kernel
theorem dX7_bad_20 : decode cX7_bad 20 = .ok (.if_icmp .ne 5, 3) := by decide +kernel
theorem dX7_bad_23 : decode cX7_bad 23 = .ok (.iconst (-1), 1) := by decide +kernel
theorem dX7_bad_24 : decode cX7_bad 24 = .ok (.ireturn, 1) := by decide +kernel
theorem dX7_bad_25 : decode cX7_bad 25 = .ok (.iload_n 3, 1) := by decide +kernel
theorem dX7_bad_26 : decode cX7_bad 26 = .ok (.bipush (-3), 2) := by decide +kernel
theorem dX7_bad_28 : decode cX7_bad 28 = .ok (.iconst 3, 1) := by decide +kernel
theorem dX7_bad_29 : decode cX7_bad 29 = .ok (.invokestatic 59, 3) := by decide +kernel
theorem dX7_bad_32 : decode cX7_bad 32 = .ok (.ifCond .ne 6, 3) := by decide +kernel
theorem dX7_bad_35 : decode cX7_bad 35 = .ok (.bipush (-2), 2) := by decide +kernel
theorem dX7_bad_37 : decode cX7_bad 37 = .ok (.ireturn, 1) := by decide +kernel
theorem dX7_bad_38 : decode cX7_bad 38 = .ok (.iload_n 1, 1) := by decide +kernel
theorem dX7_bad_39 : decode cX7_bad 39 = .ok (.bipush 6, 2) := by decide +kernel
theorem dX7_bad_41 : decode cX7_bad 41 = .ok (.imul, 1) := by decide +kernel
theorem dX7_bad_42 : decode cX7_bad 42 = .ok (.iload_n 2, 1) := by decide +kernel
theorem dX7_bad_43 : decode cX7_bad 43 = .ok (.iadd, 1) := by decide +kernel
theorem dX7_bad_44 : decode cX7_bad 44 = .ok (.istore 4, 2) := by decide +kernel
theorem dX7_bad_46 : decode cX7_bad 46 = .ok (.aload_n 0, 1) := by decide +kernel
theorem dX7_bad_47 : decode cX7_bad 47 = .ok (.getfield 12, 3) := by decide +kernel
theorem dX7_bad_50 : decode cX7_bad 50 = .ok (.getfield 89, 3) := by decide +kernel
theorem dX7_bad_53 : decode cX7_bad 53 = .ok (.iload 4, 2) := by decide +kernel
theorem dX7_bad_55 : decode cX7_bad 55 = .ok (.iaload, 1) := by decide +kernel
theorem dX7_bad_56 : decode cX7_bad 56 = .ok (.istore 5, 2) := by decide +kernel
theorem dX7_bad_58 : decode cX7_bad 58 = .ok (.aload_n 0, 1) := by decide +kernel
theorem dX7_bad_59 : decode cX7_bad 59 = .ok (.getfield 12, 3) := by decide +kernel
theorem dX7_bad_62 : decode cX7_bad 62 = .ok (.getfield 89, 3) := by decide +kernel
theorem dX7_bad_65 : decode cX7_bad 65 = .ok (.iload 4, 2) := by decide +kernel
theorem dX7_bad_67 : decode cX7_bad 67 = .ok (.iload_n 3, 1) := by decide +kernel
theorem dX7_bad_68 : decode cX7_bad 68 = .ok (.iastore, 1) := by decide +kernel
theorem dX7_bad_69 : decode cX7_bad 69 = .ok (.iload 5, 2) := by decide +kernel
theorem dX7_bad_71 : decode cX7_bad 71 = .ok (.bipush 10, 2) := by decide +kernel
theorem dX7_bad_73 : decode cX7_bad 73 = .ok (.iadd, 1) := by decide +kernel
theorem dX7_bad_74 : decode cX7_bad 74 = .ok (.ireturn, 1) := by decide +kernel
theorem dX7_guest_0 : decode cX7_guest 0 = .ok (.iload_n 1, 1) := by decide +kernel
theorem dX7_guest_1 : decode cX7_guest 1 = .ok (.bipush 6, 2) := by decide +kernel
theorem dX7_guest_3 : decode cX7_guest 3 = .ok (.invokestatic 55, 3) := by decide +kernel
theorem dX7_guest_6 : decode cX7_guest 6 = .ok (.ifCond .ne 5, 3) := by decide +kernel
theorem dX7_guest_9 : decode cX7_guest 9 = .ok (.iconst (-1), 1) := by decide +kernel
theorem dX7_guest_10 : decode cX7_guest 10 = .ok (.ireturn, 1) := by decide +kernel
theorem dX7_guest_11 : decode cX7_guest 11 = .ok (.iload_n 2, 1) := by decide +kernel
theorem dX7_guest_12 : decode cX7_guest 12 = .ok (.bipush 64, 2) := by decide +kernel
theorem dX7_guest_14 : decode cX7_guest 14 = .ok (.invokestatic 55, 3) := by decide +kernel
theorem dX7_guest_17 : decode cX7_guest 17 = .ok (.ifCond .ne 6, 3) := by decide +kernel
theorem dX7_guest_20 : decode cX7_guest 20 = .ok (.bipush (-2), 2) := by decide +kernel
theorem dX7_guest_22 : decode cX7_guest 22 = .ok (.ireturn, 1) := by decide +kernel
theorem dX7_guest_23 : decode cX7_guest 23 = .ok (.aload_n 0, 1) := by decide +kernel
theorem dX7_guest_24 : decode cX7_guest 24 = .ok (.getfield 12, 3) := by decide +kernel
theorem dX7_guest_27 : decode cX7_guest 27 = .ok (.getfield 92, 3) := by decide +kernel
theorem dX7_guest_30 : decode cX7_guest 30 = .ok (.iload_n 1, 1) := by decide +kernel
theorem dX7_guest_31 : decode cX7_guest 31 = .ok (.iaload, 1) := by decide +kernel
theorem dX7_guest_32 : decode cX7_guest 32 = .ok (.istore_n 3, 1) := by decide +kernel
theorem dX7_guest_33 : decode cX7_guest 33 = .ok (.aload_n 0, 1) := by decide +kernel
theorem dX7_guest_34 : decode cX7_guest 34 = .ok (.getfield 12, 3) := by decide +kernel
theorem dX7_guest_37 : decode cX7_guest 37 = .ok (.getfield 92, 3) := by decide +kernel
theorem dX7_guest_40 : decode cX7_guest 40 = .ok (.iload_n 1, 1) := by decide +kernel
theorem dX7_guest_41 : decode cX7_guest 41 = .ok (.iload_n 2, 1) := by decide +kernel
theorem dX7_guest_42 : decode cX7_guest 42 = .ok (.iastore, 1) := by decide +kernel
theorem dX7_guest_43 : decode cX7_guest 43 = .ok (.iload_n 3, 1) := by decide +kernel
theorem dX7_guest_44 : decode cX7_guest 44 = .ok (.ireturn, 1) := by decide +kernel
theorem dX7_say_0 : decode cX7_say 0 = .ok (.iload_n 1, 1) := by decide +kernel
theorem dX7_say_1 : decode cX7_say 1 = .ok (.bipush 33, 2) := by decide +kernel
theorem dX7_say_3 : decode cX7_say 3 = .ok (.bipush 126, 2) := by decide +kernel
theorem dX7_say_5 : decode cX7_say 5 = .ok (.invokestatic 59, 3) := by decide +kernel
theorem dX7_say_8 : decode cX7_say 8 = .ok (.ifCond .ne 6, 3) := by decide +kernel
theorem dX7_say_11 : decode cX7_say 11 = .ok (.bipush (-2), 2) := by decide +kernel
theorem dX7_say_13 : decode cX7_say 13 = .ok (.ireturn, 1) := by decide +kernel
theorem dX7_say_14 : decode cX7_say 14 = .ok (.aload_n 0, 1) := by decide +kernel
theorem dX7_say_15 : decode cX7_say 15 = .ok (.getfield 23, 3) := by decide +kernel
theorem dX7_say_18 : decode cX7_say 18 = .ok (.invokevirtual 95, 3) := by decide +kernel
theorem dX7_say_21 : decode cX7_say 21 = .ok (.ifCond .eq 6, 3) := by decide +kernel
theorem dX7_say_24 : decode cX7_say 24 = .ok (.bipush (-4), 2) := by decide +kernel
theorem dX7_say_26 : decode cX7_say 26 = .ok (.ireturn, 1) := by decide +kernel
theorem dX7_say_27 : decode cX7_say 27 = .ok (.aload_n 0, 1) := by decide +kernel
theorem dX7_say_28 : decode cX7_say 28 = .ok (.getfield 23, 3) := by decide +kernel
theorem dX7_say_31 : decode cX7_say 31 = .ok (.iload_n 1, 1) := by decide +kernel
theorem dX7_say_32 : decode cX7_say 32 = .ok (.invokevirtual 99, 3) := by decide +kernel
theorem dX7_say_35 : decode cX7_say 35 = .ok (.aload_n 0, 1) := by decide +kernel
theorem dX7_say_36 : decode cX7_say 36 = .ok (.getfield 23, 3) := by decide +kernel
theorem dX7_say_39 : decode cX7_say 39 = .ok (.getfield 102, 3) := by decide +kernel
theorem dX7_say_42 : decode cX7_say 42 = .ok (.ireturn, 1) := by decide +kernel
theorem dX7_wipe_0 : decode cX7_wipe 0 = .ok (.aload_n 0, 1) := by decide +kernel
theorem dX7_wipe_1 : decode cX7_wipe 1 = .ok (.getfield 23, 3) := by decide +kernel
theorem dX7_wipe_4 : decode cX7_wipe 4 = .ok (.getfield 102, 3) := by decide +kernel
theorem dX7_wipe_7 : decode cX7_wipe 7 = .ok (.istore_n 1, 1) := by decide +kernel
theorem dX7_wipe_8 : decode cX7_wipe 8 = .ok (.aload_n 0, 1) := by decide +kernel
theorem dX7_wipe_9 : decode cX7_wipe 9 = .ok (.getfield 23, 3) := by decide +kernel
theorem dX7_wipe_12 : decode cX7_wipe 12 = .ok (.iconst 0, 1) := by decide +kernel
theorem dX7_wipe_13 : decode cX7_wipe 13 = .ok (.putfield 102, 3) := by decide +kernel
theorem dX7_wipe_16 : decode cX7_wipe 16 = .ok (.iload_n 1, 1) := by decide +kernel
theorem dX7_wipe_17 : decode cX7_wipe 17 = .ok (.ireturn, 1) := by decide +kernel
theorem dX7_fault_0 : decode cX7_fault 0 = .ok (.aload_n 0, 1) := by decide +kernel
theorem dX7_fault_1 : decode cX7_fault 1 = .ok (.getfield 23, 3) := by decide +kernel
theorem dX7_fault_4 : decode cX7_fault 4 = .ok (.invokevirtual 105, 3) := by decide +kernel
theorem dX7_fault_7 : decode cX7_fault 7 = .ok (.ireturn, 1) := by decide +kernel
theorem dX7_judge_0 : decode cX7_judge 0 = .ok (.iload_n 1, 1) := by decide +kernel
theorem dX7_judge_1 : decode cX7_judge 1 = .ok (.iconst 2, 1) := by decide +kernel
theorem dX7_judge_2 : decode cX7_judge 2 = .ok (.invokestatic 55, 3) := by decide +kernel
theorem dX7_judge_5 : decode cX7_judge 5 = .ok (.ifCond .ne 6, 3) := by decide +kernel
theorem dX7_judge_8 : decode cX7_judge 8 = .ok (.bipush (-2), 2) := by decide +kernel
theorem dX7_judge_10 : decode cX7_judge 10 = .ok (.ireturn, 1) := by decide +kernel
theorem dX7_judge_11 : decode cX7_judge 11 = .ok (.aload_n 0, 1) := by decide +kernel
theorem dX7_judge_12 : decode cX7_judge 12 = .ok (.getfield 23, 3) := by decide +kernel
theorem dX7_judge_15 : decode cX7_judge 15 = .ok (.invokevirtual 105, 3) := by decide +kernel
theorem dX7_judge_18 : decode cX7_judge 18 = .ok (.bipush (-6), 2) := by decide +kernel
theorem dX7_judge_20 : decode cX7_judge 20 = .ok (.if_icmp .eq 6, 3) := by decide +kernel
theorem dX7_judge_23 : decode cX7_judge 23 = .ok (.bipush (-5), 2) := by decide +kernel
theorem dX7_judge_25 : decode cX7_judge 25 = .ok (.ireturn, 1) := by decide +kernel
theorem dX7_judge_26 : decode cX7_judge 26 = .ok (.aload_n 0, 1) := by decide +kernel
theorem dX7_judge_27 : decode cX7_judge 27 = .ok (.getfield 30, 3) := by decide +kernel
theorem dX7_judge_30 : decode cX7_judge 30 = .ok (.aload_n 0, 1) := by decide +kernel
theorem dX7_judge_31 : decode cX7_judge 31 = .ok (.getfield 23, 3) := by decide +kernel
theorem dX7_judge_34 : decode cX7_judge 34 = .ok (.aload_n 0, 1) := by decide +kernel
theorem dX7_judge_35 : decode cX7_judge 35 = .ok (.getfield 12, 3) := by decide +kernel
theorem dX7_judge_38 : decode cX7_judge 38 = .ok (.invokevirtual 109, 3) := by decide +kernel
theorem dX7_judge_41 : decode cX7_judge 41 = .ok (.aload_n 0, 1) := by decide +kernel
theorem dX7_judge_42 : decode cX7_judge 42 = .ok (.getfield 30, 3) := by decide +kernel
theorem dX7_judge_45 : decode cX7_judge 45 = .ok (.getfield 113, 3) := by decide +kernel
theorem dX7_judge_48 : decode cX7_judge 48 = .ok (.ifCond .ne 6, 3) := by decide +kernel
theorem dX7_judge_51 : decode cX7_judge 51 = .ok (.bipush (-6), 2) := by decide +kernel
theorem dX7_judge_53 : decode cX7_judge 53 = .ok (.ireturn, 1) := by decide +kernel
theorem dX7_judge_54 : decode cX7_judge 54 = .ok (.iload_n 1, 1) := by decide +kernel
theorem dX7_judge_55 : decode cX7_judge 55 = .ok (.ifCond .ne 13, 3) := by decide +kernel
theorem dX7_judge_58 : decode cX7_judge 58 = .ok (.aload_n 0, 1) := by decide +kernel
theorem dX7_judge_59 : decode cX7_judge 59 = .ok (.getfield 30, 3) := by decide +kernel
theorem dX7_judge_62 : decode cX7_judge 62 = .ok (.getfield 116, 3) := by decide +kernel
theorem dX7_judge_65 : decode cX7_judge 65 = .ok (.goto 10, 3) := by decide +kernel
theorem dX7_judge_68 : decode cX7_judge 68 = .ok (.aload_n 0, 1) := by decide +kernel
theorem dX7_judge_69 : decode cX7_judge 69 = .ok (.getfield 30, 3) := by decide +kernel
theorem dX7_judge_72 : decode cX7_judge 72 = .ok (.getfield 113, 3) := by decide +kernel
theorem dX7_judge_75 : decode cX7_judge 75 = .ok (.ireturn, 1) := by decide +kernel
theorem dX7_done_0 : decode cX7_done 0 = .ok (.aload_n 0, 1) := by decide +kernel
theorem dX7_done_1 : decode cX7_done 1 = .ok (.invokevirtual 119, 3) := by decide +kernel
theorem dX7_done_4 : decode cX7_done 4 = .ok (.ifCond .ne 6, 3) := by decide +kernel
theorem dX7_done_7 : decode cX7_done 7 = .ok (.bipush (-5), 2) := by decide +kernel
theorem dX7_done_9 : decode cX7_done 9 = .ok (.ireturn, 1) := by decide +kernel
theorem dX7_done_10 : decode cX7_done 10 = .ok (.aload_n 0, 1) := by decide +kernel
theorem dX7_done_11 : decode cX7_done 11 = .ok (.getfield 12, 3) := by decide +kernel
theorem dX7_done_14 : decode cX7_done 14 = .ok (.aload_n 0, 1) := by decide +kernel
theorem dX7_done_15 : decode cX7_done 15 = .ok (.getfield 30, 3) := by decide +kernel
theorem dX7_done_18 : decode cX7_done 18 = .ok (.getfield 122, 3) := by decide +kernel
theorem dX7_done_21 : decode cX7_done 21 = .ok (.invokevirtual 123, 3) := by decide +kernel
theorem dX7_done_24 : decode cX7_done 24 = .ok (.aload_n 0, 1) := by decide +kernel
theorem dX7_done_25 : decode cX7_done 25 = .ok (.getfield 23, 3) := by decide +kernel
theorem dX7_done_28 : decode cX7_done 28 = .ok (.iconst 0, 1) := by decide +kernel
theorem dX7_done_29 : decode cX7_done 29 = .ok (.putfield 102, 3) := by decide +kernel
theorem dX7_done_32 : decode cX7_done 32 = .ok (.aload_n 0, 1) := by decide +kernel
theorem dX7_done_33 : decode cX7_done 33 = .ok (.getfield 30, 3) := by decide +kernel
theorem dX7_done_36 : decode cX7_done 36 = .ok (.getfield 116, 3) := by decide +kernel
theorem dX7_done_39 : decode cX7_done 39 = .ok (.ireturn, 1) := by decide +kernel
theorem dX7_behind_0 : decode cX7_behind 0 = .ok (.aload_n 0, 1) := by decide +kernel
theorem dX7_behind_1 : decode cX7_behind 1 = .ok (.getfield 12, 3) := by decide +kernel
theorem dX7_behind_4 : decode cX7_behind 4 = .ok (.iload_n 1, 1) := by decide +kernel
theorem dX7_behind_5 : decode cX7_behind 5 = .ok (.invokevirtual 77, 3) := by decide +kernel
theorem dX7_behind_8 : decode cX7_behind 8 = .ok (.ifCond .ne 5, 3) := by decide +kernel
theorem dX7_behind_11 : decode cX7_behind 11 = .ok (.iconst (-1), 1) := by decide +kernel
theorem dX7_behind_12 : decode cX7_behind 12 = .ok (.ireturn, 1) := by decide +kernel
theorem dX7_behind_13 : decode cX7_behind 13 = .ok (.iload_n 2, 1) := by decide +kernel
theorem dX7_behind_14 : decode cX7_behind 14 = .ok (.iconst 4, 1) := by decide +kernel
theorem dX7_behind_15 : decode cX7_behind 15 = .ok (.invokestatic 55, 3) := by decide +kernel
theorem dX7_behind_18 : decode cX7_behind 18 = .ok (.ifCond .ne 6, 3) := by decide +kernel
theorem dX7_behind_21 : decode cX7_behind 21 = .ok (.bipush (-2), 2) := by decide +kernel
theorem dX7_behind_23 : decode cX7_behind 23 = .ok (.ireturn, 1) := by decide +kernel
theorem dX7_behind_24 : decode cX7_behind 24 = .ok (.aload_n 0, 1) := by decide +kernel
theorem dX7_behind_25 : decode cX7_behind 25 = .ok (.invokevirtual 119, 3) := by decide +kernel
theorem dX7_behind_28 : decode cX7_behind 28 = .ok (.ifCond .ne 6, 3) := by decide +kernel
theorem dX7_behind_31 : decode cX7_behind 31 = .ok (.bipush (-5), 2) := by decide +kernel
theorem dX7_behind_33 : decode cX7_behind 33 = .ok (.ireturn, 1) := by decide +kernel
theorem dX7_behind_34 : decode cX7_behind 34 = .ok (.aload_n 0, 1) := by decide +kernel
theorem dX7_behind_35 : decode cX7_behind 35 = .ok (.getfield 30, 3) := by decide +kernel
theorem dX7_behind_38 : decode cX7_behind 38 = .ok (.getfield 122, 3) := by decide +kernel
theorem dX7_behind_41 : decode cX7_behind 41 = .ok (.iload_n 1, 1) := by decide +kernel
theorem dX7_behind_42 : decode cX7_behind 42 = .ok (.iload_n 2, 1) := by decide +kernel
theorem dX7_behind_43 : decode cX7_behind 43 = .ok (.invokevirtual 127, 3) := by decide +kernel
theorem dX7_behind_46 : decode cX7_behind 46 = .ok (.ireturn, 1) := by decide +kernel
theorem dX7_worse_0 : decode cX7_worse 0 = .ok (.iload_n 1, 1) := by decide +kernel
theorem dX7_worse_1 : decode cX7_worse 1 = .ok (.iconst 2, 1) := by decide +kernel
theorem dX7_worse_2 : decode cX7_worse 2 = .ok (.invokestatic 55, 3) := by decide +kernel
theorem dX7_worse_5 : decode cX7_worse 5 = .ok (.ifCond .ne 6, 3) := by decide +kernel
theorem dX7_worse_8 : decode cX7_worse 8 = .ok (.bipush (-2), 2) := by decide +kernel
theorem dX7_worse_10 : decode cX7_worse 10 = .ok (.ireturn, 1) := by decide +kernel
theorem dX7_worse_11 : decode cX7_worse 11 = .ok (.aload_n 0, 1) := by decide +kernel
theorem dX7_worse_12 : decode cX7_worse 12 = .ok (.invokevirtual 119, 3) := by decide +kernel
theorem dX7_worse_15 : decode cX7_worse 15 = .ok (.ifCond .ne 6, 3) := by decide +kernel
theorem dX7_worse_18 : decode cX7_worse 18 = .ok (.bipush (-5), 2) := by decide +kernel
theorem dX7_worse_20 : decode cX7_worse 20 = .ok (.ireturn, 1) := by decide +kernel
theorem dX7_worse_21 : decode cX7_worse 21 = .ok (.iload_n 1, 1) := by decide +kernel
theorem dX7_worse_22 : decode cX7_worse 22 = .ok (.ifCond .ne 13, 3) := by decide +kernel
theorem dX7_worse_25 : decode cX7_worse 25 = .ok (.aload_n 0, 1) := by decide +kernel
theorem dX7_worse_26 : decode cX7_worse 26 = .ok (.getfield 30, 3) := by decide +kernel
theorem dX7_worse_29 : decode cX7_worse 29 = .ok (.getfield 131, 3) := by decide +kernel
theorem dX7_worse_32 : decode cX7_worse 32 = .ok (.goto 10, 3) := by decide +kernel
theorem dX7_worse_35 : decode cX7_worse 35 = .ok (.aload_n 0, 1) := by decide +kernel
theorem dX7_worse_36 : decode cX7_worse 36 = .ok (.getfield 30, 3) := by decide +kernel
theorem dX7_worse_39 : decode cX7_worse 39 = .ok (.getfield 134, 3) := by decide +kernel
theorem dX7_worse_42 : decode cX7_worse 42 = .ok (.ireturn, 1) := by decide +kernel
theorem dX7_well_0 : decode cX7_well 0 = .ok (.aload_n 0, 1) := by decide +kernel
theorem dX7_well_1 : decode cX7_well 1 = .ok (.getfield 12, 3) := by decide +kernel
theorem dX7_well_4 : decode cX7_well 4 = .ok (.invokevirtual 137, 3) := by decide +kernel
theorem dX7_well_7 : decode cX7_well 7 = .ok (.ireturn, 1) := by decide +kernel
theorem dX7_stays_0 : decode cX7_stays 0 = .ok (.aload_n 0, 1) := by decide +kernel
theorem dX7_stays_1 : decode cX7_stays 1 = .ok (.getfield 12, 3) := by decide +kernel
theorem dX7_stays_4 : decode cX7_stays 4 = .ok (.iload_n 1, 1) := by decide +kernel
theorem dX7_stays_5 : decode cX7_stays 5 = .ok (.invokevirtual 77, 3) := by decide +kernel
theorem dX7_stays_8 : decode cX7_stays 8 = .ok (.ifCond .ne 5, 3) := by decide +kernel
theorem dX7_stays_11 : decode cX7_stays 11 = .ok (.iconst (-1), 1) := by decide +kernel
theorem dX7_stays_12 : decode cX7_stays 12 = .ok (.ireturn, 1) := by decide +kernel
theorem dX7_stays_13 : decode cX7_stays 13 = .ok (.aload_n 0, 1) := by decide +kernel
theorem dX7_stays_14 : decode cX7_stays 14 = .ok (.getfield 12, 3) := by decide +kernel
theorem dX7_stays_17 : decode cX7_stays 17 = .ok (.iload_n 1, 1) := by decide +kernel
theorem dX7_stays_18 : decode cX7_stays 18 = .ok (.invokevirtual 140, 3) := by decide +kernel
theorem dX7_stays_21 : decode cX7_stays 21 = .ok (.istore_n 2, 1) := by decide +kernel
theorem dX7_stays_22 : decode cX7_stays 22 = .ok (.iload_n 2, 1) := by decide +kernel
theorem dX7_stays_23 : decode cX7_stays 23 = .ok (.bipush 60, 2) := by decide +kernel
theorem dX7_stays_25 : decode cX7_stays 25 = .ok (.if_icmp .gt 7, 3) := by decide +kernel
theorem dX7_stays_28 : decode cX7_stays 28 = .ok (.iload_n 2, 1) := by decide +kernel
theorem dX7_stays_29 : decode cX7_stays 29 = .ok (.goto 5, 3) := by decide +kernel
theorem dX7_stays_32 : decode cX7_stays 32 = .ok (.bipush (-6), 2) := by decide +kernel
theorem dX7_stays_34 : decode cX7_stays 34 = .ok (.ireturn, 1) := by decide +kernel
theorem dX7_canBeDone_0 : decode cX7_canBeDone 0 = .ok (.aload_n 0, 1) := by decide +kernel
theorem dX7_canBeDone_1 : decode cX7_canBeDone 1 = .ok (.getfield 23, 3) := by decide +kernel
theorem dX7_canBeDone_4 : decode cX7_canBeDone 4 = .ok (.invokevirtual 105, 3) := by decide +kernel
theorem dX7_canBeDone_7 : decode cX7_canBeDone 7 = .ok (.bipush (-6), 2) := by decide +kernel
theorem dX7_canBeDone_9 : decode cX7_canBeDone 9 = .ok (.if_icmp .eq 5, 3) := by decide +kernel
theorem dX7_canBeDone_12 : decode cX7_canBeDone 12 = .ok (.iconst 0, 1) := by decide +kernel
theorem dX7_canBeDone_13 : decode cX7_canBeDone 13 = .ok (.ireturn, 1) := by decide +kernel
theorem dX7_canBeDone_14 : decode cX7_canBeDone 14 = .ok (.aload_n 0, 1) := by decide +kernel
theorem dX7_canBeDone_15 : decode cX7_canBeDone 15 = .ok (.getfield 30, 3) := by decide +kernel
theorem dX7_canBeDone_18 : decode cX7_canBeDone 18 = .ok (.aload_n 0, 1) := by decide +kernel
theorem dX7_canBeDone_19 : decode cX7_canBeDone 19 = .ok (.getfield 23, 3) := by decide +kernel
theorem dX7_canBeDone_22 : decode cX7_canBeDone 22 = .ok (.aload_n 0, 1) := by decide +kernel
theorem dX7_canBeDone_23 : decode cX7_canBeDone 23 = .ok (.getfield 12, 3) := by decide +kernel
theorem dX7_canBeDone_26 : decode cX7_canBeDone 26 = .ok (.invokevirtual 109, 3) := by decide +kernel
theorem dX7_canBeDone_29 : decode cX7_canBeDone 29 = .ok (.aload_n 0, 1) := by decide +kernel
theorem dX7_canBeDone_30 : decode cX7_canBeDone 30 = .ok (.getfield 30, 3) := by decide +kernel
theorem dX7_canBeDone_33 : decode cX7_canBeDone 33 = .ok (.getfield 113, 3) := by decide +kernel
theorem dX7_canBeDone_36 : decode cX7_canBeDone 36 = .ok (.ifCond .ne 7, 3) := by decide +kernel
theorem dX7_canBeDone_39 : decode cX7_canBeDone 39 = .ok (.iconst 1, 1) := by decide +kernel
theorem dX7_canBeDone_40 : decode cX7_canBeDone 40 = .ok (.goto 4, 3) := by decide +kernel
theorem dX7_canBeDone_43 : decode cX7_canBeDone 43 = .ok (.iconst 0, 1) := by decide +kernel
theorem dX7_canBeDone_44 : decode cX7_canBeDone 44 = .ok (.ireturn, 1) := by decide +kernel
theorem dX7_alone_0 : decode cX7_alone 0 = .ok (.aload_n 0, 1) := by decide +kernel
theorem dX7_alone_1 : decode cX7_alone 1 = .ok (.getfield 12, 3) := by decide +kernel
theorem dX7_alone_4 : decode cX7_alone 4 = .ok (.iload_n 1, 1) := by decide +kernel
theorem dX7_alone_5 : decode cX7_alone 5 = .ok (.invokevirtual 77, 3) := by decide +kernel
theorem dX7_alone_8 : decode cX7_alone 8 = .ok (.ifCond .ne 5, 3) := by decide +kernel
theorem dX7_alone_11 : decode cX7_alone 11 = .ok (.iconst (-1), 1) := by decide +kernel
theorem dX7_alone_12 : decode cX7_alone 12 = .ok (.ireturn, 1) := by decide +kernel
theorem dX7_alone_13 : decode cX7_alone 13 = .ok (.iload_n 2, 1) := by decide +kernel
theorem dX7_alone_14 : decode cX7_alone 14 = .ok (.iconst 2, 1) := by decide +kernel
theorem dX7_alone_15 : decode cX7_alone 15 = .ok (.invokestatic 55, 3) := by decide +kernel
theorem dX7_alone_18 : decode cX7_alone 18 = .ok (.ifCond .ne 6, 3) := by decide +kernel
theorem dX7_alone_21 : decode cX7_alone 21 = .ok (.bipush (-2), 2) := by decide +kernel
theorem dX7_alone_23 : decode cX7_alone 23 = .ok (.ireturn, 1) := by decide +kernel
theorem dX7_alone_24 : decode cX7_alone 24 = .ok (.iconst 0, 1) := by decide +kernel
theorem dX7_alone_25 : decode cX7_alone 25 = .ok (.istore_n 3, 1) := by decide +kernel
theorem dX7_alone_26 : decode cX7_alone 26 = .ok (.aload_n 0, 1) := by decide +kernel
theorem dX7_alone_27 : decode cX7_alone 27 = .ok (.getfield 12, 3) := by decide +kernel
theorem dX7_alone_30 : decode cX7_alone 30 = .ok (.iload_n 1, 1) := by decide +kernel
theorem dX7_alone_31 : decode cX7_alone 31 = .ok (.iconst 0, 1) := by decide +kernel
theorem dX7_alone_32 : decode cX7_alone 32 = .ok (.invokevirtual 143, 3) := by decide +kernel
theorem dX7_alone_35 : decode cX7_alone 35 = .ok (.istore 4, 2) := by decide +kernel
theorem dX7_alone_37 : decode cX7_alone 37 = .ok (.iconst 1, 1) := by decide +kernel
theorem dX7_alone_38 : decode cX7_alone 38 = .ok (.istore 5, 2) := by decide +kernel
theorem dX7_alone_40 : decode cX7_alone 40 = .ok (.iload 5, 2) := by decide +kernel
theorem dX7_alone_42 : decode cX7_alone 42 = .ok (.iconst 4, 1) := by decide +kernel
theorem dX7_alone_43 : decode cX7_alone 43 = .ok (.if_icmp .ge 35, 3) := by decide +kernel
theorem dX7_alone_46 : decode cX7_alone 46 = .ok (.aload_n 0, 1) := by decide +kernel
theorem dX7_alone_47 : decode cX7_alone 47 = .ok (.getfield 12, 3) := by decide +kernel
theorem dX7_alone_50 : decode cX7_alone 50 = .ok (.iload_n 1, 1) := by decide +kernel
theorem dX7_alone_51 : decode cX7_alone 51 = .ok (.iload 5, 2) := by decide +kernel
theorem dX7_alone_53 : decode cX7_alone 53 = .ok (.invokevirtual 143, 3) := by decide +kernel
theorem dX7_alone_56 : decode cX7_alone 56 = .ok (.istore 6, 2) := by decide +kernel
theorem dX7_alone_58 : decode cX7_alone 58 = .ok (.iload 6, 2) := by decide +kernel
theorem dX7_alone_60 : decode cX7_alone 60 = .ok (.iload 4, 2) := by decide +kernel
theorem dX7_alone_62 : decode cX7_alone 62 = .ok (.if_icmp .ge 10, 3) := by decide +kernel
theorem dX7_alone_65 : decode cX7_alone 65 = .ok (.iload 6, 2) := by decide +kernel
theorem dX7_alone_67 : decode cX7_alone 67 = .ok (.istore 4, 2) := by decide +kernel
theorem dX7_alone_69 : decode cX7_alone 69 = .ok (.iload 5, 2) := by decide +kernel
theorem dX7_alone_71 : decode cX7_alone 71 = .ok (.istore_n 3, 1) := by decide +kernel
theorem dX7_alone_72 : decode cX7_alone 72 = .ok (.iinc 5 1, 3) := by decide +kernel
theorem dX7_alone_75 : decode cX7_alone 75 = .ok (.goto (-35), 3) := by decide +kernel
theorem dX7_alone_78 : decode cX7_alone 78 = .ok (.iload 4, 2) := by decide +kernel
theorem dX7_alone_80 : decode cX7_alone 80 = .ok (.bipush 60, 2) := by decide +kernel
theorem dX7_alone_82 : decode cX7_alone 82 = .ok (.if_icmp .le 6, 3) := by decide +kernel
theorem dX7_alone_85 : decode cX7_alone 85 = .ok (.bipush (-6), 2) := by decide +kernel
theorem dX7_alone_87 : decode cX7_alone 87 = .ok (.ireturn, 1) := by decide +kernel
theorem dX7_alone_88 : decode cX7_alone 88 = .ok (.iload_n 2, 1) := by decide +kernel
theorem dX7_alone_89 : decode cX7_alone 89 = .ok (.ifCond .ne 7, 3) := by decide +kernel
theorem dX7_alone_92 : decode cX7_alone 92 = .ok (.iload_n 3, 1) := by decide +kernel
theorem dX7_alone_93 : decode cX7_alone 93 = .ok (.goto 5, 3) := by decide +kernel
theorem dX7_alone_96 : decode cX7_alone 96 = .ok (.iload 4, 2) := by decide +kernel
theorem dX7_alone_98 : decode cX7_alone 98 = .ok (.ireturn, 1) := by decide +kernel
theorem dX7_all_0 : decode cX7_all 0 = .ok (.iload_n 1, 1) := by decide +kernel
theorem dX7_all_1 : decode cX7_all 1 = .ok (.iconst 2, 1) := by decide +kernel
theorem dX7_all_2 : decode cX7_all 2 = .ok (.invokestatic 55, 3) := by decide +kernel
theorem dX7_all_5 : decode cX7_all 5 = .ok (.ifCond .ne 6, 3) := by decide +kernel
theorem dX7_all_8 : decode cX7_all 8 = .ok (.bipush (-2), 2) := by decide +kernel
theorem dX7_all_10 : decode cX7_all 10 = .ok (.ireturn, 1) := by decide +kernel
theorem dX7_all_11 : decode cX7_all 11 = .ok (.aload_n 0, 1) := by decide +kernel
theorem dX7_all_12 : decode cX7_all 12 = .ok (.getfield 37, 3) := by decide +kernel
theorem dX7_all_15 : decode cX7_all 15 = .ok (.aload_n 0, 1) := by decide +kernel
theorem dX7_all_16 : decode cX7_all 16 = .ok (.getfield 12, 3) := by decide +kernel
theorem dX7_all_19 : decode cX7_all 19 = .ok (.invokevirtual 146, 3) := by decide +kernel
theorem dX7_all_22 : decode cX7_all 22 = .ok (.aload_n 0, 1) := by decide +kernel
theorem dX7_all_23 : decode cX7_all 23 = .ok (.getfield 37, 3) := by decide +kernel
theorem dX7_all_26 : decode cX7_all 26 = .ok (.getfield 149, 3) := by decide +kernel
theorem dX7_all_29 : decode cX7_all 29 = .ok (.bipush 20, 2) := by decide +kernel
theorem dX7_all_31 : decode cX7_all 31 = .ok (.if_icmp .le 6, 3) := by decide +kernel
theorem dX7_all_34 : decode cX7_all 34 = .ok (.bipush (-6), 2) := by decide +kernel
theorem dX7_all_36 : decode cX7_all 36 = .ok (.ireturn, 1) := by decide +kernel
theorem dX7_all_37 : decode cX7_all 37 = .ok (.iload_n 1, 1) := by decide +kernel
theorem dX7_all_38 : decode cX7_all 38 = .ok (.ifCond .ne 13, 3) := by decide +kernel
theorem dX7_all_41 : decode cX7_all 41 = .ok (.aload_n 0, 1) := by decide +kernel
theorem dX7_all_42 : decode cX7_all 42 = .ok (.getfield 37, 3) := by decide +kernel
theorem dX7_all_45 : decode cX7_all 45 = .ok (.getfield 149, 3) := by decide +kernel
theorem dX7_all_48 : decode cX7_all 48 = .ok (.goto 10, 3) := by decide +kernel
theorem dX7_all_51 : decode cX7_all 51 = .ok (.aload_n 0, 1) := by decide +kernel
theorem dX7_all_52 : decode cX7_all 52 = .ok (.getfield 37, 3) := by decide +kernel
theorem dX7_all_55 : decode cX7_all 55 = .ok (.getfield 152, 3) := by decide +kernel
theorem dX7_all_58 : decode cX7_all 58 = .ok (.ireturn, 1) := by decide +kernel
theorem dX7_ways_0 : decode cX7_ways 0 = .ok (.iload_n 1, 1) := by decide +kernel
theorem dX7_ways_1 : decode cX7_ways 1 = .ok (.ldc 155, 2) := by decide +kernel
theorem dX7_ways_3 : decode cX7_ways 3 = .ok (.invokestatic 55, 3) := by decide +kernel
theorem dX7_ways_6 : decode cX7_ways 6 = .ok (.ifCond .eq 21, 3) := by decide +kernel
theorem dX7_ways_9 : decode cX7_ways 9 = .ok (.iload_n 2, 1) := by decide +kernel
theorem dX7_ways_10 : decode cX7_ways 10 = .ok (.ldc 155, 2) := by decide +kernel
theorem dX7_ways_12 : decode cX7_ways 12 = .ok (.invokestatic 55, 3) := by decide +kernel
theorem dX7_ways_15 : decode cX7_ways 15 = .ok (.ifCond .eq 12, 3) := by decide +kernel
theorem dX7_ways_18 : decode cX7_ways 18 = .ok (.iload_n 3, 1) := by decide +kernel
theorem dX7_ways_19 : decode cX7_ways 19 = .ok (.iconst 1, 1) := by decide +kernel
theorem dX7_ways_20 : decode cX7_ways 20 = .ok (.iconst 4, 1) := by decide +kernel
theorem dX7_ways_21 : decode cX7_ways 21 = .ok (.invokestatic 59, 3) := by decide +kernel
theorem dX7_ways_24 : decode cX7_ways 24 = .ok (.ifCond .ne 6, 3) := by decide +kernel
theorem dX7_ways_27 : decode cX7_ways 27 = .ok (.bipush (-2), 2) := by decide +kernel
theorem dX7_ways_29 : decode cX7_ways 29 = .ok (.ireturn, 1) := by decide +kernel
theorem dX7_ways_30 : decode cX7_ways 30 = .ok (.aload_n 0, 1) := by decide +kernel
theorem dX7_ways_31 : decode cX7_ways 31 = .ok (.getfield 37, 3) := by decide +kernel
theorem dX7_ways_34 : decode cX7_ways 34 = .ok (.aload_n 0, 1) := by decide +kernel
theorem dX7_ways_35 : decode cX7_ways 35 = .ok (.getfield 12, 3) := by decide +kernel
theorem dX7_ways_38 : decode cX7_ways 38 = .ok (.getfield 67, 3) := by decide +kernel
theorem dX7_ways_41 : decode cX7_ways 41 = .ok (.iload_n 1, 1) := by decide +kernel
theorem dX7_ways_42 : decode cX7_ways 42 = .ok (.iload_n 2, 1) := by decide +kernel
theorem dX7_ways_43 : decode cX7_ways 43 = .ok (.iload_n 3, 1) := by decide +kernel
theorem dX7_ways_44 : decode cX7_ways 44 = .ok (.invokevirtual 156, 3) := by decide +kernel
theorem dX7_ways_47 : decode cX7_ways 47 = .ok (.ireturn, 1) := by decide +kernel
theorem dX7_rooms_0 : decode cX7_rooms 0 = .ok (.iload_n 1, 1) := by decide +kernel
theorem dX7_rooms_1 : decode cX7_rooms 1 = .ok (.ldc 155, 2) := by decide +kernel
theorem dX7_rooms_3 : decode cX7_rooms 3 = .ok (.invokestatic 55, 3) := by decide +kernel
theorem dX7_rooms_6 : decode cX7_rooms 6 = .ok (.ifCond .eq 12, 3) := by decide +kernel
theorem dX7_rooms_9 : decode cX7_rooms 9 = .ok (.iload_n 2, 1) := by decide +kernel
theorem dX7_rooms_10 : decode cX7_rooms 10 = .ok (.ldc 155, 2) := by decide +kernel
theorem dX7_rooms_12 : decode cX7_rooms 12 = .ok (.invokestatic 55, 3) := by decide +kernel
theorem dX7_rooms_15 : decode cX7_rooms 15 = .ok (.ifCond .ne 6, 3) := by decide +kernel
theorem dX7_rooms_18 : decode cX7_rooms 18 = .ok (.bipush (-2), 2) := by decide +kernel
theorem dX7_rooms_20 : decode cX7_rooms 20 = .ok (.ireturn, 1) := by decide +kernel
theorem dX7_rooms_21 : decode cX7_rooms 21 = .ok (.iconst 1, 1) := by decide +kernel
theorem dX7_rooms_22 : decode cX7_rooms 22 = .ok (.istore_n 3, 1) := by decide +kernel
theorem dX7_rooms_23 : decode cX7_rooms 23 = .ok (.iload_n 3, 1) := by decide +kernel
theorem dX7_rooms_24 : decode cX7_rooms 24 = .ok (.iconst 4, 1) := by decide +kernel
theorem dX7_rooms_25 : decode cX7_rooms 25 = .ok (.if_icmp .gt 31, 3) := by decide +kernel
theorem dX7_rooms_28 : decode cX7_rooms 28 = .ok (.aload_n 0, 1) := by decide +kernel
theorem dX7_rooms_29 : decode cX7_rooms 29 = .ok (.getfield 37, 3) := by decide +kernel
theorem dX7_rooms_32 : decode cX7_rooms 32 = .ok (.aload_n 0, 1) := by decide +kernel
theorem dX7_rooms_33 : decode cX7_rooms 33 = .ok (.getfield 12, 3) := by decide +kernel
theorem dX7_rooms_36 : decode cX7_rooms 36 = .ok (.getfield 67, 3) := by decide +kernel
theorem dX7_rooms_39 : decode cX7_rooms 39 = .ok (.iload_n 1, 1) := by decide +kernel
theorem dX7_rooms_40 : decode cX7_rooms 40 = .ok (.iload_n 2, 1) := by decide +kernel
theorem dX7_rooms_41 : decode cX7_rooms 41 = .ok (.iload_n 3, 1) := by decide +kernel
theorem dX7_rooms_42 : decode cX7_rooms 42 = .ok (.invokevirtual 156, 3) := by decide +kernel
theorem dX7_rooms_45 : decode cX7_rooms 45 = .ok (.ifCond .le 5, 3) := by decide +kernel
theorem dX7_rooms_48 : decode cX7_rooms 48 = .ok (.iload_n 3, 1) := by decide +kernel
theorem dX7_rooms_49 : decode cX7_rooms 49 = .ok (.ireturn, 1) := by decide +kernel
theorem dX7_rooms_50 : decode cX7_rooms 50 = .ok (.iinc 3 1, 3) := by decide +kernel
theorem dX7_rooms_53 : decode cX7_rooms 53 = .ok (.goto (-30), 3) := by decide +kernel
theorem dX7_rooms_56 : decode cX7_rooms 56 = .ok (.bipush (-6), 2) := by decide +kernel
theorem dX7_rooms_58 : decode cX7_rooms 58 = .ok (.ireturn, 1) := by decide +kernel
theorem dX7_seats_0 : decode cX7_seats 0 = .ok (.iload_n 1, 1) := by decide +kernel
theorem dX7_seats_1 : decode cX7_seats 1 = .ok (.iconst (-1), 1) := by decide +kernel
theorem dX7_seats_2 : decode cX7_seats 2 = .ok (.iconst 5, 1) := by decide +kernel
theorem dX7_seats_3 : decode cX7_seats 3 = .ok (.invokestatic 59, 3) := by decide +kernel
theorem dX7_seats_6 : decode cX7_seats 6 = .ok (.ifCond .ne 5, 3) := by decide +kernel
theorem dX7_seats_9 : decode cX7_seats 9 = .ok (.iconst (-1), 1) := by decide +kernel
theorem dX7_seats_10 : decode cX7_seats 10 = .ok (.ireturn, 1) := by decide +kernel
theorem dX7_seats_11 : decode cX7_seats 11 = .ok (.aload_n 0, 1) := by decide +kernel
theorem dX7_seats_12 : decode cX7_seats 12 = .ok (.getfield 44, 3) := by decide +kernel
theorem dX7_seats_15 : decode cX7_seats 15 = .ok (.aload_n 0, 1) := by decide +kernel
theorem dX7_seats_16 : decode cX7_seats 16 = .ok (.getfield 12, 3) := by decide +kernel
theorem dX7_seats_19 : decode cX7_seats 19 = .ok (.invokevirtual 160, 3) := by decide +kernel
theorem dX7_seats_22 : decode cX7_seats 22 = .ok (.iload_n 1, 1) := by decide +kernel
theorem dX7_seats_23 : decode cX7_seats 23 = .ok (.iconst (-1), 1) := by decide +kernel
theorem dX7_seats_24 : decode cX7_seats 24 = .ok (.if_icmp .ne 13, 3) := by decide +kernel
theorem dX7_seats_27 : decode cX7_seats 27 = .ok (.aload_n 0, 1) := by decide +kernel
theorem dX7_seats_28 : decode cX7_seats 28 = .ok (.getfield 44, 3) := by decide +kernel
theorem dX7_seats_31 : decode cX7_seats 31 = .ok (.invokevirtual 163, 3) := by decide +kernel
theorem dX7_seats_34 : decode cX7_seats 34 = .ok (.goto 15, 3) := by decide +kernel
theorem dX7_seats_37 : decode cX7_seats 37 = .ok (.aload_n 0, 1) := by decide +kernel
theorem dX7_seats_38 : decode cX7_seats 38 = .ok (.getfield 44, 3) := by decide +kernel
theorem dX7_seats_41 : decode cX7_seats 41 = .ok (.iload_n 1, 1) := by decide +kernel
theorem dX7_seats_42 : decode cX7_seats 42 = .ok (.aload_n 0, 1) := by decide +kernel
theorem dX7_seats_43 : decode cX7_seats 43 = .ok (.getfield 12, 3) := by decide +kernel
theorem dX7_seats_46 : decode cX7_seats 46 = .ok (.invokevirtual 166, 3) := by decide +kernel
theorem dX7_seats_49 : decode cX7_seats 49 = .ok (.ireturn, 1) := by decide +kernel
theorem dX7_seen_0 : decode cX7_seen 0 = .ok (.iload_n 1, 1) := by decide +kernel
theorem dX7_seen_1 : decode cX7_seen 1 = .ok (.iconst 0, 1) := by decide +kernel
theorem dX7_seen_2 : decode cX7_seen 2 = .ok (.bipush 20, 2) := by decide +kernel
theorem dX7_seen_4 : decode cX7_seen 4 = .ok (.invokestatic 59, 3) := by decide +kernel
theorem dX7_seen_7 : decode cX7_seen 7 = .ok (.ifCond .eq 23, 3) := by decide +kernel
theorem dX7_seen_10 : decode cX7_seen 10 = .ok (.iload_n 2, 1) := by decide +kernel
theorem dX7_seen_11 : decode cX7_seen 11 = .ok (.iconst 1, 1) := by decide +kernel
theorem dX7_seen_12 : decode cX7_seen 12 = .ok (.bipush 9, 2) := by decide +kernel
theorem dX7_seen_14 : decode cX7_seen 14 = .ok (.invokestatic 59, 3) := by decide +kernel
theorem dX7_seen_17 : decode cX7_seen 17 = .ok (.ifCond .eq 13, 3) := by decide +kernel
theorem dX7_seen_20 : decode cX7_seen 20 = .ok (.iload_n 3, 1) := by decide +kernel
theorem dX7_seen_21 : decode cX7_seen 21 = .ok (.iconst 0, 1) := by decide +kernel
theorem dX7_seen_22 : decode cX7_seen 22 = .ok (.bipush 20, 2) := by decide +kernel
theorem dX7_seen_24 : decode cX7_seen 24 = .ok (.invokestatic 59, 3) := by decide +kernel
theorem dX7_seen_27 : decode cX7_seen 27 = .ok (.ifCond .ne 6, 3) := by decide +kernel
theorem dX7_seen_30 : decode cX7_seen 30 = .ok (.bipush (-2), 2) := by decide +kernel
theorem dX7_seen_32 : decode cX7_seen 32 = .ok (.ireturn, 1) := by decide +kernel
theorem dX7_seen_33 : decode cX7_seen 33 = .ok (.aload_n 0, 1) := by decide +kernel
theorem dX7_seen_34 : decode cX7_seen 34 = .ok (.getfield 12, 3) := by decide +kernel
theorem dX7_seen_37 : decode cX7_seen 37 = .ok (.getfield 172, 3) := by decide +kernel
theorem dX7_seen_40 : decode cX7_seen 40 = .ok (.invokevirtual 176, 3) := by decide +kernel
theorem dX7_seen_43 : decode cX7_seen 43 = .ok (.ifCond .eq 6, 3) := by decide +kernel
theorem dX7_seen_46 : decode cX7_seen 46 = .ok (.bipush (-4), 2) := by decide +kernel
theorem dX7_seen_48 : decode cX7_seen 48 = .ok (.ireturn, 1) := by decide +kernel
theorem dX7_seen_49 : decode cX7_seen 49 = .ok (.aload_n 0, 1) := by decide +kernel
theorem dX7_seen_50 : decode cX7_seen 50 = .ok (.getfield 12, 3) := by decide +kernel
theorem dX7_seen_53 : decode cX7_seen 53 = .ok (.getfield 172, 3) := by decide +kernel
theorem dX7_seen_56 : decode cX7_seen 56 = .ok (.iload_n 1, 1) := by decide +kernel
theorem dX7_seen_57 : decode cX7_seen 57 = .ok (.iload_n 2, 1) := by decide +kernel
theorem dX7_seen_58 : decode cX7_seen 58 = .ok (.iload_n 3, 1) := by decide +kernel
theorem dX7_seen_59 : decode cX7_seen 59 = .ok (.invokevirtual 177, 3) := by decide +kernel
theorem dX7_seen_62 : decode cX7_seen 62 = .ok (.aload_n 0, 1) := by decide +kernel
theorem dX7_seen_63 : decode cX7_seen 63 = .ok (.getfield 12, 3) := by decide +kernel
theorem dX7_seen_66 : decode cX7_seen 66 = .ok (.getfield 172, 3) := by decide +kernel
theorem dX7_seen_69 : decode cX7_seen 69 = .ok (.getfield 181, 3) := by decide +kernel
theorem dX7_seen_72 : decode cX7_seen 72 = .ok (.ireturn, 1) := by decide +kernel
theorem dX7_forget_0 : decode cX7_forget 0 = .ok (.aload_n 0, 1) := by decide +kernel
theorem dX7_forget_1 : decode cX7_forget 1 = .ok (.getfield 12, 3) := by decide +kernel
theorem dX7_forget_4 : decode cX7_forget 4 = .ok (.getfield 172, 3) := by decide +kernel
theorem dX7_forget_7 : decode cX7_forget 7 = .ok (.getfield 181, 3) := by decide +kernel
theorem dX7_forget_10 : decode cX7_forget 10 = .ok (.istore_n 1, 1) := by decide +kernel
theorem dX7_forget_11 : decode cX7_forget 11 = .ok (.aload_n 0, 1) := by decide +kernel
theorem dX7_forget_12 : decode cX7_forget 12 = .ok (.getfield 12, 3) := by decide +kernel
theorem dX7_forget_15 : decode cX7_forget 15 = .ok (.getfield 172, 3) := by decide +kernel
theorem dX7_forget_18 : decode cX7_forget 18 = .ok (.iconst 0, 1) := by decide +kernel
theorem dX7_forget_19 : decode cX7_forget 19 = .ok (.putfield 181, 3) := by decide +kernel
theorem dX7_forget_22 : decode cX7_forget 22 = .ok (.iload_n 1, 1) := by decide +kernel
theorem dX7_forget_23 : decode cX7_forget 23 = .ok (.ireturn, 1) := by decide +kernel
theorem dX7_does_0 : decode cX7_does 0 = .ok (.aload_n 0, 1) := by decide +kernel
theorem dX7_does_1 : decode cX7_does 1 = .ok (.getfield 12, 3) := by decide +kernel
theorem dX7_does_4 : decode cX7_does 4 = .ok (.getfield 172, 3) := by decide +kernel
theorem dX7_does_7 : decode cX7_does 7 = .ok (.invokevirtual 184, 3) := by decide +kernel
theorem dX7_does_10 : decode cX7_does 10 = .ok (.istore_n 2, 1) := by decide +kernel
theorem dX7_does_11 : decode cX7_does 11 = .ok (.iload_n 1, 1) := by decide +kernel
theorem dX7_does_12 : decode cX7_does 12 = .ok (.iconst (-1), 1) := by decide +kernel
theorem dX7_does_13 : decode cX7_does 13 = .ok (.if_icmp .ne 8, 3) := by decide +kernel
theorem dX7_does_16 : decode cX7_does 16 = .ok (.iload_n 2, 1) := by decide +kernel
theorem dX7_does_17 : decode cX7_does 17 = .ok (.invokestatic 71, 3) := by decide +kernel
theorem dX7_does_20 : decode cX7_does 20 = .ok (.ireturn, 1) := by decide +kernel
theorem dX7_does_21 : decode cX7_does 21 = .ok (.iconst 0, 1) := by decide +kernel
theorem dX7_does_22 : decode cX7_does 22 = .ok (.istore_n 3, 1) := by decide +kernel
theorem dX7_does_23 : decode cX7_does 23 = .ok (.bipush (-5), 2) := by decide +kernel
theorem dX7_does_25 : decode cX7_does 25 = .ok (.istore 4, 2) := by decide +kernel
theorem dX7_does_27 : decode cX7_does 27 = .ok (.iload 4, 2) := by decide +kernel
theorem dX7_does_29 : decode cX7_does 29 = .ok (.iconst 5, 1) := by decide +kernel
theorem dX7_does_30 : decode cX7_does 30 = .ok (.if_icmp .gt 35, 3) := by decide +kernel
theorem dX7_does_33 : decode cX7_does 33 = .ok (.iload_n 2, 1) := by decide +kernel
theorem dX7_does_34 : decode cX7_does 34 = .ok (.iload 4, 2) := by decide +kernel
theorem dX7_does_36 : decode cX7_does 36 = .ok (.iconst 5, 1) := by decide +kernel
theorem dX7_does_37 : decode cX7_does 37 = .ok (.iadd, 1) := by decide +kernel
theorem dX7_does_38 : decode cX7_does 38 = .ok (.ishr, 1) := by decide +kernel
theorem dX7_does_39 : decode cX7_does 39 = .ok (.iconst 1, 1) := by decide +kernel
theorem dX7_does_40 : decode cX7_does 40 = .ok (.iand, 1) := by decide +kernel
theorem dX7_does_41 : decode cX7_does 41 = .ok (.iconst 1, 1) := by decide +kernel
theorem dX7_does_42 : decode cX7_does 42 = .ok (.if_icmp .ne 17, 3) := by decide +kernel
theorem dX7_does_45 : decode cX7_does 45 = .ok (.iload_n 3, 1) := by decide +kernel
theorem dX7_does_46 : decode cX7_does 46 = .ok (.iload_n 1, 1) := by decide +kernel
theorem dX7_does_47 : decode cX7_does 47 = .ok (.if_icmp .ne 9, 3) := by decide +kernel
theorem dX7_does_50 : decode cX7_does 50 = .ok (.iload 4, 2) := by decide +kernel
theorem dX7_does_52 : decode cX7_does 52 = .ok (.bipush 10, 2) := by decide +kernel
theorem dX7_does_54 : decode cX7_does 54 = .ok (.iadd, 1) := by decide +kernel
theorem dX7_does_55 : decode cX7_does 55 = .ok (.ireturn, 1) := by decide +kernel
theorem dX7_does_56 : decode cX7_does 56 = .ok (.iinc 3 1, 3) := by decide +kernel
theorem dX7_does_59 : decode cX7_does 59 = .ok (.iinc 4 1, 3) := by decide +kernel
theorem dX7_does_62 : decode cX7_does 62 = .ok (.goto (-35), 3) := by decide +kernel
theorem dX7_does_65 : decode cX7_does 65 = .ok (.bipush (-6), 2) := by decide +kernel
theorem dX7_does_67 : decode cX7_does 67 = .ok (.ireturn, 1) := by decide +kernel
theorem dX7_tries_0 : decode cX7_tries 0 = .ok (.iload_n 1, 1) := by decide +kernel
theorem dX7_tries_1 : decode cX7_tries 1 = .ok (.iconst 2, 1) := by decide +kernel
theorem dX7_tries_2 : decode cX7_tries 2 = .ok (.invokestatic 55, 3) := by decide +kernel
theorem dX7_tries_5 : decode cX7_tries 5 = .ok (.ifCond .ne 6, 3) := by decide +kernel
theorem dX7_tries_8 : decode cX7_tries 8 = .ok (.bipush (-2), 2) := by decide +kernel
theorem dX7_tries_10 : decode cX7_tries 10 = .ok (.ireturn, 1) := by decide +kernel
theorem dX7_tries_11 : decode cX7_tries 11 = .ok (.aload_n 0, 1) := by decide +kernel
theorem dX7_tries_12 : decode cX7_tries 12 = .ok (.getfield 12, 3) := by decide +kernel
theorem dX7_tries_15 : decode cX7_tries 15 = .ok (.getfield 172, 3) := by decide +kernel
theorem dX7_tries_18 : decode cX7_tries 18 = .ok (.invokevirtual 184, 3) := by decide +kernel
theorem dX7_tries_21 : decode cX7_tries 21 = .ok (.istore_n 2, 1) := by decide +kernel
theorem dX7_tries_22 : decode cX7_tries 22 = .ok (.iload_n 2, 1) := by decide +kernel
theorem dX7_tries_23 : decode cX7_tries 23 = .ok (.ifCond .ne 6, 3) := by decide +kernel
theorem dX7_tries_26 : decode cX7_tries 26 = .ok (.bipush (-6), 2) := by decide +kernel
theorem dX7_tries_28 : decode cX7_tries 28 = .ok (.ireturn, 1) := by decide +kernel
theorem dX7_tries_29 : decode cX7_tries 29 = .ok (.iconst 0, 1) := by decide +kernel
theorem dX7_tries_30 : decode cX7_tries 30 = .ok (.istore_n 3, 1) := by decide +kernel
theorem dX7_tries_31 : decode cX7_tries 31 = .ok (.iconst 0, 1) := by decide +kernel
theorem dX7_tries_32 : decode cX7_tries 32 = .ok (.iload_n 2, 1) := by decide +kernel
theorem dX7_tries_33 : decode cX7_tries 33 = .ok (.invokestatic 187, 3) := by decide +kernel
theorem dX7_tries_36 : decode cX7_tries 36 = .ok (.istore 4, 2) := by decide +kernel
theorem dX7_tries_38 : decode cX7_tries 38 = .ok (.iconst 1, 1) := by decide +kernel
theorem dX7_tries_39 : decode cX7_tries 39 = .ok (.istore 5, 2) := by decide +kernel
theorem dX7_tries_41 : decode cX7_tries 41 = .ok (.iload 5, 2) := by decide +kernel
theorem dX7_tries_43 : decode cX7_tries 43 = .ok (.bipush 20, 2) := by decide +kernel
theorem dX7_tries_45 : decode cX7_tries 45 = .ok (.if_icmp .gt 31, 3) := by decide +kernel
theorem dX7_tries_48 : decode cX7_tries 48 = .ok (.iload 5, 2) := by decide +kernel
theorem dX7_tries_50 : decode cX7_tries 50 = .ok (.iload_n 2, 1) := by decide +kernel
theorem dX7_tries_51 : decode cX7_tries 51 = .ok (.invokestatic 187, 3) := by decide +kernel
theorem dX7_tries_54 : decode cX7_tries 54 = .ok (.istore 6, 2) := by decide +kernel
theorem dX7_tries_56 : decode cX7_tries 56 = .ok (.iload 6, 2) := by decide +kernel
theorem dX7_tries_58 : decode cX7_tries 58 = .ok (.iload 4, 2) := by decide +kernel
theorem dX7_tries_60 : decode cX7_tries 60 = .ok (.if_icmp .ge 10, 3) := by decide +kernel
theorem dX7_tries_63 : decode cX7_tries 63 = .ok (.iload 6, 2) := by decide +kernel
theorem dX7_tries_65 : decode cX7_tries 65 = .ok (.istore 4, 2) := by decide +kernel
theorem dX7_tries_67 : decode cX7_tries 67 = .ok (.iload 5, 2) := by decide +kernel
theorem dX7_tries_69 : decode cX7_tries 69 = .ok (.istore_n 3, 1) := by decide +kernel
theorem dX7_tries_70 : decode cX7_tries 70 = .ok (.iinc 5 1, 3) := by decide +kernel
theorem dX7_tries_73 : decode cX7_tries 73 = .ok (.goto (-32), 3) := by decide +kernel
theorem dX7_tries_76 : decode cX7_tries 76 = .ok (.iload_n 1, 1) := by decide +kernel
theorem dX7_tries_77 : decode cX7_tries 77 = .ok (.ifCond .ne 7, 3) := by decide +kernel
theorem dX7_tries_80 : decode cX7_tries 80 = .ok (.iload_n 3, 1) := by decide +kernel
theorem dX7_tries_81 : decode cX7_tries 81 = .ok (.goto 5, 3) := by decide +kernel
theorem dX7_tries_84 : decode cX7_tries 84 = .ok (.iload 4, 2) := by decide +kernel
theorem dX7_tries_86 : decode cX7_tries 86 = .ok (.ireturn, 1) := by decide +kernel
theorem dX7_mostLeft_0 : decode cX7_mostLeft 0 = .ok (.iconst 0, 1) := by decide +kernel
theorem dX7_mostLeft_1 : decode cX7_mostLeft 1 = .ok (.istore_n 2, 1) := by decide +kernel
theorem dX7_mostLeft_2 : decode cX7_mostLeft 2 = .ok (.iconst 0, 1) := by decide +kernel
theorem dX7_mostLeft_3 : decode cX7_mostLeft 3 = .ok (.istore_n 3, 1) := by decide +kernel
theorem dX7_mostLeft_4 : decode cX7_mostLeft 4 = .ok (.iconst (-1), 1) := by decide +kernel
theorem dX7_mostLeft_5 : decode cX7_mostLeft 5 = .ok (.istore 4, 2) := by decide +kernel
theorem dX7_mostLeft_7 : decode cX7_mostLeft 7 = .ok (.bipush (-5), 2) := by decide +kernel
theorem dX7_mostLeft_9 : decode cX7_mostLeft 9 = .ok (.istore 5, 2) := by decide +kernel
theorem dX7_mostLeft_11 : decode cX7_mostLeft 11 = .ok (.iload 5, 2) := by decide +kernel
theorem dX7_mostLeft_13 : decode cX7_mostLeft 13 = .ok (.iconst 5, 1) := by decide +kernel
theorem dX7_mostLeft_14 : decode cX7_mostLeft 14 = .ok (.if_icmp .gt 55, 3) := by decide +kernel
theorem dX7_mostLeft_17 : decode cX7_mostLeft 17 = .ok (.iload_n 1, 1) := by decide +kernel
theorem dX7_mostLeft_18 : decode cX7_mostLeft 18 = .ok (.iload 5, 2) := by decide +kernel
theorem dX7_mostLeft_20 : decode cX7_mostLeft 20 = .ok (.iconst 5, 1) := by decide +kernel
theorem dX7_mostLeft_21 : decode cX7_mostLeft 21 = .ok (.iadd, 1) := by decide +kernel
theorem dX7_mostLeft_22 : decode cX7_mostLeft 22 = .ok (.ishr, 1) := by decide +kernel
theorem dX7_mostLeft_23 : decode cX7_mostLeft 23 = .ok (.iconst 1, 1) := by decide +kernel
theorem dX7_mostLeft_24 : decode cX7_mostLeft 24 = .ok (.iand, 1) := by decide +kernel
theorem dX7_mostLeft_25 : decode cX7_mostLeft 25 = .ok (.iconst 1, 1) := by decide +kernel
theorem dX7_mostLeft_26 : decode cX7_mostLeft 26 = .ok (.if_icmp .ne 37, 3) := by decide +kernel
theorem dX7_mostLeft_29 : decode cX7_mostLeft 29 = .ok (.iload_n 0, 1) := by decide +kernel
theorem dX7_mostLeft_30 : decode cX7_mostLeft 30 = .ok (.iload 5, 2) := by decide +kernel
theorem dX7_mostLeft_32 : decode cX7_mostLeft 32 = .ok (.iadd, 1) := by decide +kernel
theorem dX7_mostLeft_33 : decode cX7_mostLeft 33 = .ok (.invokestatic 190, 3) := by decide +kernel
theorem dX7_mostLeft_36 : decode cX7_mostLeft 36 = .ok (.istore 6, 2) := by decide +kernel
theorem dX7_mostLeft_38 : decode cX7_mostLeft 38 = .ok (.iload 6, 2) := by decide +kernel
theorem dX7_mostLeft_40 : decode cX7_mostLeft 40 = .ok (.iload 4, 2) := by decide +kernel
theorem dX7_mostLeft_42 : decode cX7_mostLeft 42 = .ok (.if_icmp .ne 9, 3) := by decide +kernel
theorem dX7_mostLeft_45 : decode cX7_mostLeft 45 = .ok (.iload_n 3, 1) := by decide +kernel
theorem dX7_mostLeft_46 : decode cX7_mostLeft 46 = .ok (.iconst 1, 1) := by decide +kernel
theorem dX7_mostLeft_47 : decode cX7_mostLeft 47 = .ok (.iadd, 1) := by decide +kernel
theorem dX7_mostLeft_48 : decode cX7_mostLeft 48 = .ok (.goto 4, 3) := by decide +kernel
theorem dX7_mostLeft_51 : decode cX7_mostLeft 51 = .ok (.iconst 1, 1) := by decide +kernel
theorem dX7_mostLeft_52 : decode cX7_mostLeft 52 = .ok (.istore_n 3, 1) := by decide +kernel
theorem dX7_mostLeft_53 : decode cX7_mostLeft 53 = .ok (.iload 6, 2) := by decide +kernel
theorem dX7_mostLeft_55 : decode cX7_mostLeft 55 = .ok (.istore 4, 2) := by decide +kernel
theorem dX7_mostLeft_57 : decode cX7_mostLeft 57 = .ok (.iload_n 2, 1) := by decide +kernel
theorem dX7_mostLeft_58 : decode cX7_mostLeft 58 = .ok (.iload_n 3, 1) := by decide +kernel
theorem dX7_mostLeft_59 : decode cX7_mostLeft 59 = .ok (.invokestatic 193, 3) := by decide +kernel
theorem dX7_mostLeft_62 : decode cX7_mostLeft 62 = .ok (.istore_n 2, 1) := by decide +kernel
theorem dX7_mostLeft_63 : decode cX7_mostLeft 63 = .ok (.iinc 5 1, 3) := by decide +kernel
theorem dX7_mostLeft_66 : decode cX7_mostLeft 66 = .ok (.goto (-55), 3) := by decide +kernel
theorem dX7_mostLeft_69 : decode cX7_mostLeft 69 = .ok (.iload_n 2, 1) := by decide +kernel
theorem dX7_mostLeft_70 : decode cX7_mostLeft 70 = .ok (.ireturn, 1) := by decide +kernel
theorem dX7_home_0 : decode cX7_home 0 = .ok (.iload_n 1, 1) := by decide +kernel
theorem dX7_home_1 : decode cX7_home 1 = .ok (.iconst 0, 1) := by decide +kernel
theorem dX7_home_2 : decode cX7_home 2 = .ok (.bipush 9, 2) := by decide +kernel
theorem dX7_home_4 : decode cX7_home 4 = .ok (.invokestatic 59, 3) := by decide +kernel
theorem dX7_home_7 : decode cX7_home 7 = .ok (.ifCond .eq 52, 3) := by decide +kernel
theorem dX7_home_10 : decode cX7_home 10 = .ok (.iload_n 2, 1) := by decide +kernel
theorem dX7_home_11 : decode cX7_home 11 = .ok (.iconst 0, 1) := by decide +kernel
theorem dX7_home_12 : decode cX7_home 12 = .ok (.bipush 9, 2) := by decide +kernel
theorem dX7_home_14 : decode cX7_home 14 = .ok (.invokestatic 59, 3) := by decide +kernel
theorem dX7_home_17 : decode cX7_home 17 = .ok (.ifCond .eq 42, 3) := by decide +kernel
theorem dX7_home_20 : decode cX7_home 20 = .ok (.iload_n 3, 1) := by decide +kernel
theorem dX7_home_21 : decode cX7_home 21 = .ok (.iconst 0, 1) := by decide +kernel
theorem dX7_home_22 : decode cX7_home 22 = .ok (.bipush 10, 2) := by decide +kernel
theorem dX7_home_24 : decode cX7_home 24 = .ok (.invokestatic 59, 3) := by decide +kernel
theorem dX7_home_27 : decode cX7_home 27 = .ok (.ifCond .eq 32, 3) := by decide +kernel
theorem dX7_home_30 : decode cX7_home 30 = .ok (.iload 4, 2) := by decide +kernel
theorem dX7_home_32 : decode cX7_home 32 = .ok (.iconst 0, 1) := by decide +kernel
theorem dX7_home_33 : decode cX7_home 33 = .ok (.bipush 9, 2) := by decide +kernel
theorem dX7_home_35 : decode cX7_home 35 = .ok (.invokestatic 59, 3) := by decide +kernel
theorem dX7_home_38 : decode cX7_home 38 = .ok (.ifCond .eq 21, 3) := by decide +kernel
theorem dX7_home_41 : decode cX7_home 41 = .ok (.iload 5, 2) := by decide +kernel
theorem dX7_home_43 : decode cX7_home 43 = .ok (.iconst 2, 1) := by decide +kernel
theorem dX7_home_44 : decode cX7_home 44 = .ok (.invokestatic 55, 3) := by decide +kernel
theorem dX7_home_47 : decode cX7_home 47 = .ok (.ifCond .eq 12, 3) := by decide +kernel
theorem dX7_home_50 : decode cX7_home 50 = .ok (.iload 6, 2) := by decide +kernel
theorem dX7_home_52 : decode cX7_home 52 = .ok (.iconst 2, 1) := by decide +kernel
theorem dX7_home_53 : decode cX7_home 53 = .ok (.invokestatic 55, 3) := by decide +kernel
theorem dX7_home_56 : decode cX7_home 56 = .ok (.ifCond .ne 7, 3) := by decide +kernel
theorem dX7_home_59 : decode cX7_home 59 = .ok (.ldc2_w 198, 3) := by decide +kernel
theorem dX7_home_62 : decode cX7_home 62 = .ok (.lreturn, 1) := by decide +kernel
theorem dX7_home_63 : decode cX7_home 63 = .ok (.aload_n 0, 1) := by decide +kernel
theorem dX7_home_64 : decode cX7_home 64 = .ok (.getfield 51, 3) := by decide +kernel
theorem dX7_home_67 : decode cX7_home 67 = .ok (.iload_n 2, 1) := by decide +kernel
theorem dX7_home_68 : decode cX7_home 68 = .ok (.iload_n 3, 1) := by decide +kernel
theorem dX7_home_69 : decode cX7_home 69 = .ok (.iload 4, 2) := by decide +kernel
theorem dX7_home_71 : decode cX7_home 71 = .ok (.invokevirtual 200, 3) := by decide +kernel
theorem dX7_home_74 : decode cX7_home 74 = .ok (.iload 5, 2) := by decide +kernel
theorem dX7_home_76 : decode cX7_home 76 = .ok (.iconst 1, 1) := by decide +kernel
theorem dX7_home_77 : decode cX7_home 77 = .ok (.if_icmp .ne 20, 3) := by decide +kernel
theorem dX7_home_80 : decode cX7_home 80 = .ok (.aload_n 0, 1) := by decide +kernel
theorem dX7_home_81 : decode cX7_home 81 = .ok (.getfield 51, 3) := by decide +kernel
theorem dX7_home_84 : decode cX7_home 84 = .ok (.iload_n 1, 1) := by decide +kernel
theorem dX7_home_85 : decode cX7_home 85 = .ok (.invokevirtual 203, 3) := by decide +kernel
theorem dX7_home_88 : decode cX7_home 88 = .ok (.ifCond .eq 7, 3) := by decide +kernel
theorem dX7_home_91 : decode cX7_home 91 = .ok (.lconst 1, 1) := by decide +kernel
theorem dX7_home_92 : decode cX7_home 92 = .ok (.goto 4, 3) := by decide +kernel
theorem dX7_home_95 : decode cX7_home 95 = .ok (.lconst 0, 1) := by decide +kernel
theorem dX7_home_96 : decode cX7_home 96 = .ok (.lreturn, 1) := by decide +kernel
theorem dX7_home_97 : decode cX7_home 97 = .ok (.aload_n 0, 1) := by decide +kernel
theorem dX7_home_98 : decode cX7_home 98 = .ok (.getfield 51, 3) := by decide +kernel
theorem dX7_home_101 : decode cX7_home 101 = .ok (.iload_n 1, 1) := by decide +kernel
theorem dX7_home_102 : decode cX7_home 102 = .ok (.iload 6, 2) := by decide +kernel
theorem dX7_home_104 : decode cX7_home 104 = .ok (.invokevirtual 206, 3) := by decide +kernel
theorem dX7_home_107 : decode cX7_home 107 = .ok (.lreturn, 1) := by decide +kernel
theorem dX7_bill_0 : decode cX7_bill 0 = .ok (.aload_n 0, 1) := by decide +kernel
theorem dX7_bill_1 : decode cX7_bill 1 = .ok (.getfield 12, 3) := by decide +kernel
theorem dX7_bill_4 : decode cX7_bill 4 = .ok (.iload_n 2, 1) := by decide +kernel
theorem dX7_bill_5 : decode cX7_bill 5 = .ok (.invokevirtual 77, 3) := by decide +kernel
theorem dX7_bill_8 : decode cX7_bill 8 = .ok (.ifCond .ne 5, 3) := by decide +kernel
theorem dX7_bill_11 : decode cX7_bill 11 = .ok (.iconst (-1), 1) := by decide +kernel
theorem dX7_bill_12 : decode cX7_bill 12 = .ok (.ireturn, 1) := by decide +kernel
theorem dX7_bill_13 : decode cX7_bill 13 = .ok (.iload_n 1, 1) := by decide +kernel
theorem dX7_bill_14 : decode cX7_bill 14 = .ok (.iconst 0, 1) := by decide +kernel
theorem dX7_bill_15 : decode cX7_bill 15 = .ok (.sipush 9999, 3) := by decide +kernel
theorem dX7_bill_18 : decode cX7_bill 18 = .ok (.invokestatic 59, 3) := by decide +kernel
theorem dX7_bill_21 : decode cX7_bill 21 = .ok (.ifCond .ne 6, 3) := by decide +kernel
theorem dX7_bill_24 : decode cX7_bill 24 = .ok (.bipush (-2), 2) := by decide +kernel
theorem dX7_bill_26 : decode cX7_bill 26 = .ok (.ireturn, 1) := by decide +kernel
theorem dX7_bill_27 : decode cX7_bill 27 = .ok (.aload_n 0, 1) := by decide +kernel
theorem dX7_bill_28 : decode cX7_bill 28 = .ok (.getfield 12, 3) := by decide +kernel
theorem dX7_bill_31 : decode cX7_bill 31 = .ok (.iload_n 1, 1) := by decide +kernel
theorem dX7_bill_32 : decode cX7_bill 32 = .ok (.iload_n 2, 1) := by decide +kernel
theorem dX7_bill_33 : decode cX7_bill 33 = .ok (.invokevirtual 210, 3) := by decide +kernel
theorem dX7_bill_36 : decode cX7_bill 36 = .ok (.ireturn, 1) := by decide +kernel
theorem dX7_draughts_0 : decode cX7_draughts 0 = .ok (.aload_n 0, 1) := by decide +kernel
theorem dX7_draughts_1 : decode cX7_draughts 1 = .ok (.getfield 12, 3) := by decide +kernel
theorem dX7_draughts_4 : decode cX7_draughts 4 = .ok (.iload_n 1, 1) := by decide +kernel
theorem dX7_draughts_5 : decode cX7_draughts 5 = .ok (.invokevirtual 77, 3) := by decide +kernel
theorem dX7_draughts_8 : decode cX7_draughts 8 = .ok (.ifCond .ne 7, 3) := by decide +kernel
theorem dX7_draughts_11 : decode cX7_draughts 11 = .ok (.ldc2_w 213, 3) := by decide +kernel
theorem dX7_draughts_14 : decode cX7_draughts 14 = .ok (.lreturn, 1) := by decide +kernel
theorem dX7_draughts_15 : decode cX7_draughts 15 = .ok (.iload_n 2, 1) := by decide +kernel
theorem dX7_draughts_16 : decode cX7_draughts 16 = .ok (.iconst 0, 1) := by decide +kernel
theorem dX7_draughts_17 : decode cX7_draughts 17 = .ok (.bipush 9, 2) := by decide +kernel
theorem dX7_draughts_19 : decode cX7_draughts 19 = .ok (.invokestatic 59, 3) := by decide +kernel
theorem dX7_draughts_22 : decode cX7_draughts 22 = .ok (.ifCond .eq 33, 3) := by decide +kernel
theorem dX7_draughts_25 : decode cX7_draughts 25 = .ok (.iload_n 3, 1) := by decide +kernel
theorem dX7_draughts_26 : decode cX7_draughts 26 = .ok (.iconst 0, 1) := by decide +kernel
theorem dX7_draughts_27 : decode cX7_draughts 27 = .ok (.bipush 10, 2) := by decide +kernel
theorem dX7_draughts_29 : decode cX7_draughts 29 = .ok (.invokestatic 59, 3) := by decide +kernel
theorem dX7_draughts_32 : decode cX7_draughts 32 = .ok (.ifCond .eq 23, 3) := by decide +kernel
theorem dX7_draughts_35 : decode cX7_draughts 35 = .ok (.iload 4, 2) := by decide +kernel
theorem dX7_draughts_37 : decode cX7_draughts 37 = .ok (.iconst 0, 1) := by decide +kernel
theorem dX7_draughts_38 : decode cX7_draughts 38 = .ok (.bipush 20, 2) := by decide +kernel
theorem dX7_draughts_40 : decode cX7_draughts 40 = .ok (.invokestatic 59, 3) := by decide +kernel
theorem dX7_draughts_43 : decode cX7_draughts 43 = .ok (.ifCond .eq 12, 3) := by decide +kernel
theorem dX7_draughts_46 : decode cX7_draughts 46 = .ok (.iload 5, 2) := by decide +kernel
theorem dX7_draughts_48 : decode cX7_draughts 48 = .ok (.iconst 2, 1) := by decide +kernel
theorem dX7_draughts_49 : decode cX7_draughts 49 = .ok (.invokestatic 55, 3) := by decide +kernel
theorem dX7_draughts_52 : decode cX7_draughts 52 = .ok (.ifCond .ne 7, 3) := by decide +kernel
theorem dX7_draughts_55 : decode cX7_draughts 55 = .ok (.ldc2_w 198, 3) := by decide +kernel
theorem dX7_draughts_58 : decode cX7_draughts 58 = .ok (.lreturn, 1) := by decide +kernel
theorem dX7_draughts_59 : decode cX7_draughts 59 = .ok (.aload_n 0, 1) := by decide +kernel
theorem dX7_draughts_60 : decode cX7_draughts 60 = .ok (.getfield 51, 3) := by decide +kernel
theorem dX7_draughts_63 : decode cX7_draughts 63 = .ok (.aload_n 0, 1) := by decide +kernel
theorem dX7_draughts_64 : decode cX7_draughts 64 = .ok (.getfield 12, 3) := by decide +kernel
theorem dX7_draughts_67 : decode cX7_draughts 67 = .ok (.iload_n 1, 1) := by decide +kernel
theorem dX7_draughts_68 : decode cX7_draughts 68 = .ok (.iconst 2, 1) := by decide +kernel
theorem dX7_draughts_69 : decode cX7_draughts 69 = .ok (.invokevirtual 215, 3) := by decide +kernel
theorem dX7_draughts_72 : decode cX7_draughts 72 = .ok (.aload_n 0, 1) := by decide +kernel
theorem dX7_draughts_73 : decode cX7_draughts 73 = .ok (.getfield 12, 3) := by decide +kernel
theorem dX7_draughts_76 : decode cX7_draughts 76 = .ok (.iload_n 1, 1) := by decide +kernel
theorem dX7_draughts_77 : decode cX7_draughts 77 = .ok (.iconst 2, 1) := by decide +kernel
theorem dX7_draughts_78 : decode cX7_draughts 78 = .ok (.invokevirtual 218, 3) := by decide +kernel
theorem dX7_draughts_81 : decode cX7_draughts 81 = .ok (.iload_n 2, 1) := by decide +kernel
theorem dX7_draughts_82 : decode cX7_draughts 82 = .ok (.iload_n 3, 1) := by decide +kernel
theorem dX7_draughts_83 : decode cX7_draughts 83 = .ok (.invokevirtual 221, 3) := by decide +kernel
theorem dX7_draughts_86 : decode cX7_draughts 86 = .ok (.aload_n 0, 1) := by decide +kernel
theorem dX7_draughts_87 : decode cX7_draughts 87 = .ok (.getfield 51, 3) := by decide +kernel
theorem dX7_draughts_90 : decode cX7_draughts 90 = .ok (.iload 4, 2) := by decide +kernel
theorem dX7_draughts_92 : decode cX7_draughts 92 = .ok (.iload 5, 2) := by decide +kernel
theorem dX7_draughts_94 : decode cX7_draughts 94 = .ok (.invokevirtual 224, 3) := by decide +kernel
theorem dX7_draughts_97 : decode cX7_draughts 97 = .ok (.lreturn, 1) := by decide +kernel
theorem dX7_week_0 : decode cX7_week 0 = .ok (.iload_n 1, 1) := by decide +kernel
theorem dX7_week_1 : decode cX7_week 1 = .ok (.iconst 0, 1) := by decide +kernel
theorem dX7_week_2 : decode cX7_week 2 = .ok (.sipush 9999, 3) := by decide +kernel
theorem dX7_week_5 : decode cX7_week 5 = .ok (.invokestatic 59, 3) := by decide +kernel
theorem dX7_week_8 : decode cX7_week 8 = .ok (.ifCond .eq 21, 3) := by decide +kernel
theorem dX7_week_11 : decode cX7_week 11 = .ok (.iload_n 2, 1) := by decide +kernel
theorem dX7_week_12 : decode cX7_week 12 = .ok (.iconst 1, 1) := by decide +kernel
theorem dX7_week_13 : decode cX7_week 13 = .ok (.bipush 99, 2) := by decide +kernel
theorem dX7_week_15 : decode cX7_week 15 = .ok (.invokestatic 59, 3) := by decide +kernel
theorem dX7_week_18 : decode cX7_week 18 = .ok (.ifCond .eq 11, 3) := by decide +kernel
theorem dX7_week_21 : decode cX7_week 21 = .ok (.iload_n 3, 1) := by decide +kernel
theorem dX7_week_22 : decode cX7_week 22 = .ok (.iconst 3, 1) := by decide +kernel
theorem dX7_week_23 : decode cX7_week 23 = .ok (.invokestatic 55, 3) := by decide +kernel
theorem dX7_week_26 : decode cX7_week 26 = .ok (.ifCond .ne 6, 3) := by decide +kernel
theorem dX7_week_29 : decode cX7_week 29 = .ok (.bipush (-2), 2) := by decide +kernel
theorem dX7_week_31 : decode cX7_week 31 = .ok (.ireturn, 1) := by decide +kernel
theorem dX7_week_32 : decode cX7_week 32 = .ok (.aload_n 0, 1) := by decide +kernel
theorem dX7_week_33 : decode cX7_week 33 = .ok (.getfield 30, 3) := by decide +kernel
theorem dX7_week_36 : decode cX7_week 36 = .ok (.aload_n 0, 1) := by decide +kernel
theorem dX7_week_37 : decode cX7_week 37 = .ok (.getfield 12, 3) := by decide +kernel
theorem dX7_week_40 : decode cX7_week 40 = .ok (.iload_n 1, 1) := by decide +kernel
theorem dX7_week_41 : decode cX7_week 41 = .ok (.iload_n 2, 1) := by decide +kernel
theorem dX7_week_42 : decode cX7_week 42 = .ok (.invokevirtual 227, 3) := by decide +kernel
theorem dX7_week_45 : decode cX7_week 45 = .ok (.iload_n 3, 1) := by decide +kernel
theorem dX7_week_46 : decode cX7_week 46 = .ok (.ifCond .ne 14, 3) := by decide +kernel
theorem dX7_week_49 : decode cX7_week 49 = .ok (.aload_n 0, 1) := by decide +kernel
theorem dX7_week_50 : decode cX7_week 50 = .ok (.getfield 30, 3) := by decide +kernel
theorem dX7_week_53 : decode cX7_week 53 = .ok (.getfield 122, 3) := by decide +kernel
theorem dX7_week_56 : decode cX7_week 56 = .ok (.invokevirtual 231, 3) := by decide +kernel
theorem dX7_week_59 : decode cX7_week 59 = .ok (.ireturn, 1) := by decide +kernel
theorem dX7_week_60 : decode cX7_week 60 = .ok (.iload_n 3, 1) := by decide +kernel
theorem dX7_week_61 : decode cX7_week 61 = .ok (.iconst 1, 1) := by decide +kernel
theorem dX7_week_62 : decode cX7_week 62 = .ok (.if_icmp .ne 19, 3) := by decide +kernel
theorem dX7_week_65 : decode cX7_week 65 = .ok (.aload_n 0, 1) := by decide +kernel
theorem dX7_week_66 : decode cX7_week 66 = .ok (.getfield 30, 3) := by decide +kernel
theorem dX7_week_69 : decode cX7_week 69 = .ok (.getfield 122, 3) := by decide +kernel
theorem dX7_week_72 : decode cX7_week 72 = .ok (.invokevirtual 137, 3) := by decide +kernel
theorem dX7_week_75 : decode cX7_week 75 = .ok (.invokestatic 71, 3) := by decide +kernel
theorem dX7_week_78 : decode cX7_week 78 = .ok (.goto 10, 3) := by decide +kernel
theorem dX7_week_81 : decode cX7_week 81 = .ok (.aload_n 0, 1) := by decide +kernel
theorem dX7_week_82 : decode cX7_week 82 = .ok (.getfield 30, 3) := by decide +kernel
theorem dX7_week_85 : decode cX7_week 85 = .ok (.getfield 234, 3) := by decide +kernel
theorem dX7_week_88 : decode cX7_week 88 = .ok (.ireturn, 1) := by decide +kernel
theorem dX7_image_0 : decode cX7_image 0 = .ok (.iload_n 1, 1) := by decide +kernel
theorem dX7_image_1 : decode cX7_image 1 = .ok (.iconst 2, 1) := by decide +kernel
theorem dX7_image_2 : decode cX7_image 2 = .ok (.invokestatic 55, 3) := by decide +kernel
theorem dX7_image_5 : decode cX7_image 5 = .ok (.ifCond .ne 6, 3) := by decide +kernel
theorem dX7_image_8 : decode cX7_image 8 = .ok (.bipush (-2), 2) := by decide +kernel
theorem dX7_image_10 : decode cX7_image 10 = .ok (.ireturn, 1) := by decide +kernel
theorem dX7_image_11 : decode cX7_image 11 = .ok (.aload_n 0, 1) := by decide +kernel
theorem dX7_image_12 : decode cX7_image 12 = .ok (.getfield 16, 3) := by decide +kernel
theorem dX7_image_15 : decode cX7_image 15 = .ok (.iload_n 1, 1) := by decide +kernel
theorem dX7_image_16 : decode cX7_image 16 = .ok (.aaload, 1) := by decide +kernel
theorem dX7_image_17 : decode cX7_image 17 = .ok (.astore_n 2, 1) := by decide +kernel
theorem dX7_image_18 : decode cX7_image 18 = .ok (.aload_n 2, 1) := by decide +kernel
theorem dX7_image_19 : decode cX7_image 19 = .ok (.ifnonnull 18, 3) := by decide +kernel
theorem dX7_image_22 : decode cX7_image 22 = .ok (.new 9, 3) := by decide +kernel
theorem dX7_image_25 : decode cX7_image 25 = .ok (.dup, 1) := by decide +kernel
theorem dX7_image_26 : decode cX7_image 26 = .ok (.invokespecial 11, 3) := by decide +kernel
theorem dX7_image_29 : decode cX7_image 29 = .ok (.astore_n 2, 1) := by decide +kernel
theorem dX7_image_30 : decode cX7_image 30 = .ok (.aload_n 0, 1) := by decide +kernel
theorem dX7_image_31 : decode cX7_image 31 = .ok (.getfield 16, 3) := by decide +kernel
theorem dX7_image_34 : decode cX7_image 34 = .ok (.iload_n 1, 1) := by decide +kernel
theorem dX7_image_35 : decode cX7_image 35 = .ok (.aload_n 2, 1) := by decide +kernel
theorem dX7_image_36 : decode cX7_image 36 = .ok (.aastore, 1) := by decide +kernel
theorem dX7_image_37 : decode cX7_image 37 = .ok (.aload_n 2, 1) := by decide +kernel
theorem dX7_image_38 : decode cX7_image 38 = .ok (.aload_n 0, 1) := by decide +kernel
theorem dX7_image_39 : decode cX7_image 39 = .ok (.getfield 12, 3) := by decide +kernel
theorem dX7_image_42 : decode cX7_image 42 = .ok (.invokevirtual 123, 3) := by decide +kernel
theorem dX7_image_45 : decode cX7_image 45 = .ok (.iconst 1, 1) := by decide +kernel
theorem dX7_image_46 : decode cX7_image 46 = .ok (.ireturn, 1) := by decide +kernel
theorem dX7_restore_0 : decode cX7_restore 0 = .ok (.iload_n 1, 1) := by decide +kernel
theorem dX7_restore_1 : decode cX7_restore 1 = .ok (.iconst 2, 1) := by decide +kernel
theorem dX7_restore_2 : decode cX7_restore 2 = .ok (.invokestatic 55, 3) := by decide +kernel
theorem dX7_restore_5 : decode cX7_restore 5 = .ok (.ifCond .ne 6, 3) := by decide +kernel
theorem dX7_restore_8 : decode cX7_restore 8 = .ok (.bipush (-2), 2) := by decide +kernel
theorem dX7_restore_10 : decode cX7_restore 10 = .ok (.ireturn, 1) := by decide +kernel
theorem dX7_restore_11 : decode cX7_restore 11 = .ok (.aload_n 0, 1) := by decide +kernel
theorem dX7_restore_12 : decode cX7_restore 12 = .ok (.getfield 16, 3) := by decide +kernel
theorem dX7_restore_15 : decode cX7_restore 15 = .ok (.iload_n 1, 1) := by decide +kernel
theorem dX7_restore_16 : decode cX7_restore 16 = .ok (.aaload, 1) := by decide +kernel
theorem dX7_restore_17 : decode cX7_restore 17 = .ok (.astore_n 2, 1) := by decide +kernel
theorem dX7_restore_18 : decode cX7_restore 18 = .ok (.aload_n 2, 1) := by decide +kernel
theorem dX7_restore_19 : decode cX7_restore 19 = .ok (.ifnonnull 6, 3) := by decide +kernel
theorem dX7_restore_22 : decode cX7_restore 22 = .ok (.bipush (-3), 2) := by decide +kernel
theorem dX7_restore_24 : decode cX7_restore 24 = .ok (.ireturn, 1) := by decide +kernel
theorem dX7_restore_25 : decode cX7_restore 25 = .ok (.aload_n 0, 1) := by decide +kernel
theorem dX7_restore_26 : decode cX7_restore 26 = .ok (.getfield 12, 3) := by decide +kernel
theorem dX7_restore_29 : decode cX7_restore 29 = .ok (.aload_n 2, 1) := by decide +kernel
theorem dX7_restore_30 : decode cX7_restore 30 = .ok (.invokevirtual 123, 3) := by decide +kernel
theorem dX7_restore_33 : decode cX7_restore 33 = .ok (.iconst 1, 1) := by decide +kernel
theorem dX7_restore_34 : decode cX7_restore 34 = .ok (.ireturn, 1) := by decide +kernel
theorem dX7_told_0 : decode cX7_told 0 = .ok (.iload_n 1, 1) := by decide +kernel
theorem dX7_told_1 : decode cX7_told 1 = .ok (.bipush 10, 2) := by decide +kernel
theorem dX7_told_3 : decode cX7_told 3 = .ok (.if_icmp .ge 9, 3) := by decide +kernel
theorem dX7_told_6 : decode cX7_told 6 = .ok (.aload_n 0, 1) := by decide +kernel
theorem dX7_told_7 : decode cX7_told 7 = .ok (.iload_n 1, 1) := by decide +kernel
theorem dX7_told_8 : decode cX7_told 8 = .ok (.invokevirtual 235, 3) := by decide +kernel
theorem dX7_told_11 : decode cX7_told 11 = .ok (.ireturn, 1) := by decide +kernel
theorem dX7_told_12 : decode cX7_told 12 = .ok (.iload_n 1, 1) := by decide +kernel
theorem dX7_told_13 : decode cX7_told 13 = .ok (.bipush 100, 2) := by decide +kernel
theorem dX7_told_15 : decode cX7_told 15 = .ok (.if_icmp .ge 18, 3) := by decide +kernel
theorem dX7_told_18 : decode cX7_told 18 = .ok (.aload_n 0, 1) := by decide +kernel
theorem dX7_told_19 : decode cX7_told 19 = .ok (.iload_n 1, 1) := by decide +kernel
theorem dX7_told_20 : decode cX7_told 20 = .ok (.bipush 10, 2) := by decide +kernel
theorem dX7_told_22 : decode cX7_told 22 = .ok (.idiv, 1) := by decide +kernel
theorem dX7_told_23 : decode cX7_told 23 = .ok (.iconst 1, 1) := by decide +kernel
theorem dX7_told_24 : decode cX7_told 24 = .ok (.isub, 1) := by decide +kernel
theorem dX7_told_25 : decode cX7_told 25 = .ok (.iload_n 1, 1) := by decide +kernel
theorem dX7_told_26 : decode cX7_told 26 = .ok (.bipush 10, 2) := by decide +kernel
theorem dX7_told_28 : decode cX7_told 28 = .ok (.irem, 1) := by decide +kernel
theorem dX7_told_29 : decode cX7_told 29 = .ok (.invokevirtual 238, 3) := by decide +kernel
theorem dX7_told_32 : decode cX7_told 32 = .ok (.ireturn, 1) := by decide +kernel
theorem dX7_told_33 : decode cX7_told 33 = .ok (.iload_n 1, 1) := by decide +kernel
theorem dX7_told_34 : decode cX7_told 34 = .ok (.sipush 500, 3) := by decide +kernel
theorem dX7_told_37 : decode cX7_told 37 = .ok (.if_icmp .ge 18, 3) := by decide +kernel
theorem dX7_told_40 : decode cX7_told 40 = .ok (.aload_n 0, 1) := by decide +kernel
theorem dX7_told_41 : decode cX7_told 41 = .ok (.iload_n 1, 1) := by decide +kernel
theorem dX7_told_42 : decode cX7_told 42 = .ok (.bipush 100, 2) := by decide +kernel
theorem dX7_told_44 : decode cX7_told 44 = .ok (.idiv, 1) := by decide +kernel
theorem dX7_told_45 : decode cX7_told 45 = .ok (.iconst 1, 1) := by decide +kernel
theorem dX7_told_46 : decode cX7_told 46 = .ok (.isub, 1) := by decide +kernel
theorem dX7_told_47 : decode cX7_told 47 = .ok (.iload_n 1, 1) := by decide +kernel
theorem dX7_told_48 : decode cX7_told 48 = .ok (.bipush 100, 2) := by decide +kernel
theorem dX7_told_50 : decode cX7_told 50 = .ok (.irem, 1) := by decide +kernel
theorem dX7_told_51 : decode cX7_told 51 = .ok (.invokevirtual 241, 3) := by decide +kernel
theorem dX7_told_54 : decode cX7_told 54 = .ok (.ireturn, 1) := by decide +kernel
theorem dX7_told_55 : decode cX7_told 55 = .ok (.iload_n 1, 1) := by decide +kernel
theorem dX7_told_56 : decode cX7_told 56 = .ok (.sipush 600, 3) := by decide +kernel
theorem dX7_told_59 : decode cX7_told 59 = .ok (.if_icmp .ge 24, 3) := by decide +kernel
theorem dX7_told_62 : decode cX7_told 62 = .ok (.aload_n 0, 1) := by decide +kernel
theorem dX7_told_63 : decode cX7_told 63 = .ok (.iload_n 1, 1) := by decide +kernel
theorem dX7_told_64 : decode cX7_told 64 = .ok (.sipush 500, 3) := by decide +kernel
theorem dX7_told_67 : decode cX7_told 67 = .ok (.isub, 1) := by decide +kernel
theorem dX7_told_68 : decode cX7_told 68 = .ok (.bipush 6, 2) := by decide +kernel
theorem dX7_told_70 : decode cX7_told 70 = .ok (.idiv, 1) := by decide +kernel
theorem dX7_told_71 : decode cX7_told 71 = .ok (.iload_n 1, 1) := by decide +kernel
theorem dX7_told_72 : decode cX7_told 72 = .ok (.sipush 500, 3) := by decide +kernel
theorem dX7_told_75 : decode cX7_told 75 = .ok (.isub, 1) := by decide +kernel
theorem dX7_told_76 : decode cX7_told 76 = .ok (.bipush 6, 2) := by decide +kernel
theorem dX7_told_78 : decode cX7_told 78 = .ok (.irem, 1) := by decide +kernel
theorem dX7_told_79 : decode cX7_told 79 = .ok (.invokevirtual 244, 3) := by decide +kernel
theorem dX7_told_82 : decode cX7_told 82 = .ok (.ireturn, 1) := by decide +kernel
theorem dX7_told_83 : decode cX7_told 83 = .ok (.iload_n 1, 1) := by decide +kernel
theorem dX7_told_84 : decode cX7_told 84 = .ok (.sipush 600, 3) := by decide +kernel
theorem dX7_told_87 : decode cX7_told 87 = .ok (.isub, 1) := by decide +kernel
theorem dX7_told_88 : decode cX7_told 88 = .ok (.bipush 6, 2) := by decide +kernel
theorem dX7_told_90 : decode cX7_told 90 = .ok (.invokestatic 55, 3) := by decide +kernel
theorem dX7_told_93 : decode cX7_told 93 = .ok (.ifCond .eq 19, 3) := by decide +kernel
theorem dX7_told_96 : decode cX7_told 96 = .ok (.aload_n 0, 1) := by decide +kernel
theorem dX7_told_97 : decode cX7_told 97 = .ok (.getfield 12, 3) := by decide +kernel
theorem dX7_told_100 : decode cX7_told 100 = .ok (.getfield 92, 3) := by decide +kernel
theorem dX7_told_103 : decode cX7_told 103 = .ok (.iload_n 1, 1) := by decide +kernel
theorem dX7_told_104 : decode cX7_told 104 = .ok (.sipush 600, 3) := by decide +kernel
theorem dX7_told_107 : decode cX7_told 107 = .ok (.isub, 1) := by decide +kernel
theorem dX7_told_108 : decode cX7_told 108 = .ok (.iaload, 1) := by decide +kernel
theorem dX7_told_109 : decode cX7_told 109 = .ok (.goto 5, 3) := by decide +kernel
theorem dX7_told_112 : decode cX7_told 112 = .ok (.bipush (-2), 2) := by decide +kernel
theorem dX7_told_114 : decode cX7_told 114 = .ok (.ireturn, 1) := by decide +kernel
theorem dX7_tellCounts_0 : decode cX7_tellCounts 0 = .ok (.iload_n 1, 1) := by decide +kernel
theorem dX7_tellCounts_1 : decode cX7_tellCounts 1 = .ok (.tableswitch 78 0 4 #[35, 43, 51, 59, 70], 35) := by decide +kernel
theorem dX7_tellCounts_36 : decode cX7_tellCounts 36 = .ok (.aload_n 0, 1) := by decide +kernel
theorem dX7_tellCounts_37 : decode cX7_tellCounts 37 = .ok (.getfield 23, 3) := by decide +kernel
theorem dX7_tellCounts_40 : decode cX7_tellCounts 40 = .ok (.getfield 102, 3) := by decide +kernel
theorem dX7_tellCounts_43 : decode cX7_tellCounts 43 = .ok (.ireturn, 1) := by decide +kernel
theorem dX7_tellCounts_44 : decode cX7_tellCounts 44 = .ok (.aload_n 0, 1) := by decide +kernel
theorem dX7_tellCounts_45 : decode cX7_tellCounts 45 = .ok (.getfield 12, 3) := by decide +kernel
theorem dX7_tellCounts_48 : decode cX7_tellCounts 48 = .ok (.getfield 67, 3) := by decide +kernel
theorem dX7_tellCounts_51 : decode cX7_tellCounts 51 = .ok (.ireturn, 1) := by decide +kernel
theorem dX7_tellCounts_52 : decode cX7_tellCounts 52 = .ok (.aload_n 0, 1) := by decide +kernel
theorem dX7_tellCounts_53 : decode cX7_tellCounts 53 = .ok (.getfield 12, 3) := by decide +kernel
theorem dX7_tellCounts_56 : decode cX7_tellCounts 56 = .ok (.getfield 247, 3) := by decide +kernel
theorem dX7_tellCounts_59 : decode cX7_tellCounts 59 = .ok (.ireturn, 1) := by decide +kernel
theorem dX7_tellCounts_60 : decode cX7_tellCounts 60 = .ok (.aload_n 0, 1) := by decide +kernel
theorem dX7_tellCounts_61 : decode cX7_tellCounts 61 = .ok (.getfield 12, 3) := by decide +kernel
theorem dX7_tellCounts_64 : decode cX7_tellCounts 64 = .ok (.getfield 172, 3) := by decide +kernel
theorem dX7_tellCounts_67 : decode cX7_tellCounts 67 = .ok (.getfield 181, 3) := by decide +kernel
theorem dX7_tellCounts_70 : decode cX7_tellCounts 70 = .ok (.ireturn, 1) := by decide +kernel
theorem dX7_tellCounts_71 : decode cX7_tellCounts 71 = .ok (.aload_n 0, 1) := by decide +kernel
theorem dX7_tellCounts_72 : decode cX7_tellCounts 72 = .ok (.getfield 12, 3) := by decide +kernel
theorem dX7_tellCounts_75 : decode cX7_tellCounts 75 = .ok (.getfield 250, 3) := by decide +kernel
theorem dX7_tellCounts_78 : decode cX7_tellCounts 78 = .ok (.ireturn, 1) := by decide +kernel
theorem dX7_tellCounts_79 : decode cX7_tellCounts 79 = .ok (.bipush (-2), 2) := by decide +kernel
theorem dX7_tellCounts_81 : decode cX7_tellCounts 81 = .ok (.ireturn, 1) := by decide +kernel
theorem dX7_tellPiece_0 : decode cX7_tellPiece 0 = .ok (.aload_n 0, 1) := by decide +kernel
theorem dX7_tellPiece_1 : decode cX7_tellPiece 1 = .ok (.getfield 12, 3) := by decide +kernel
theorem dX7_tellPiece_4 : decode cX7_tellPiece 4 = .ok (.iload_n 1, 1) := by decide +kernel
theorem dX7_tellPiece_5 : decode cX7_tellPiece 5 = .ok (.invokevirtual 77, 3) := by decide +kernel
theorem dX7_tellPiece_8 : decode cX7_tellPiece 8 = .ok (.ifCond .eq 23, 3) := by decide +kernel
theorem dX7_tellPiece_11 : decode cX7_tellPiece 11 = .ok (.iload_n 2, 1) := by decide +kernel
theorem dX7_tellPiece_12 : decode cX7_tellPiece 12 = .ok (.iconst 4, 1) := by decide +kernel
theorem dX7_tellPiece_13 : decode cX7_tellPiece 13 = .ok (.invokestatic 55, 3) := by decide +kernel
theorem dX7_tellPiece_16 : decode cX7_tellPiece 16 = .ok (.ifCond .eq 15, 3) := by decide +kernel
theorem dX7_tellPiece_19 : decode cX7_tellPiece 19 = .ok (.aload_n 0, 1) := by decide +kernel
theorem dX7_tellPiece_20 : decode cX7_tellPiece 20 = .ok (.getfield 12, 3) := by decide +kernel
theorem dX7_tellPiece_23 : decode cX7_tellPiece 23 = .ok (.iload_n 1, 1) := by decide +kernel
theorem dX7_tellPiece_24 : decode cX7_tellPiece 24 = .ok (.iload_n 2, 1) := by decide +kernel
theorem dX7_tellPiece_25 : decode cX7_tellPiece 25 = .ok (.invokevirtual 127, 3) := by decide +kernel
theorem dX7_tellPiece_28 : decode cX7_tellPiece 28 = .ok (.goto 5, 3) := by decide +kernel
theorem dX7_tellPiece_31 : decode cX7_tellPiece 31 = .ok (.bipush (-2), 2) := by decide +kernel
theorem dX7_tellPiece_33 : decode cX7_tellPiece 33 = .ok (.ireturn, 1) := by decide +kernel
theorem dX7_tellRoom_0 : decode cX7_tellRoom 0 = .ok (.iload_n 1, 1) := by decide +kernel
theorem dX7_tellRoom_1 : decode cX7_tellRoom 1 = .ok (.iconst 4, 1) := by decide +kernel
theorem dX7_tellRoom_2 : decode cX7_tellRoom 2 = .ok (.invokestatic 55, 3) := by decide +kernel
theorem dX7_tellRoom_5 : decode cX7_tellRoom 5 = .ok (.ifCond .eq 30, 3) := by decide +kernel
theorem dX7_tellRoom_8 : decode cX7_tellRoom 8 = .ok (.iload_n 2, 1) := by decide +kernel
theorem dX7_tellRoom_9 : decode cX7_tellRoom 9 = .ok (.iconst 3, 1) := by decide +kernel
theorem dX7_tellRoom_10 : decode cX7_tellRoom 10 = .ok (.invokestatic 55, 3) := by decide +kernel
theorem dX7_tellRoom_13 : decode cX7_tellRoom 13 = .ok (.ifCond .eq 22, 3) := by decide +kernel
theorem dX7_tellRoom_16 : decode cX7_tellRoom 16 = .ok (.aload_n 0, 1) := by decide +kernel
theorem dX7_tellRoom_17 : decode cX7_tellRoom 17 = .ok (.getfield 12, 3) := by decide +kernel
theorem dX7_tellRoom_20 : decode cX7_tellRoom 20 = .ok (.getfield 85, 3) := by decide +kernel
theorem dX7_tellRoom_23 : decode cX7_tellRoom 23 = .ok (.iload_n 1, 1) := by decide +kernel
theorem dX7_tellRoom_24 : decode cX7_tellRoom 24 = .ok (.iconst 3, 1) := by decide +kernel
theorem dX7_tellRoom_25 : decode cX7_tellRoom 25 = .ok (.imul, 1) := by decide +kernel
theorem dX7_tellRoom_26 : decode cX7_tellRoom 26 = .ok (.iload_n 2, 1) := by decide +kernel
theorem dX7_tellRoom_27 : decode cX7_tellRoom 27 = .ok (.iadd, 1) := by decide +kernel
theorem dX7_tellRoom_28 : decode cX7_tellRoom 28 = .ok (.iaload, 1) := by decide +kernel
theorem dX7_tellRoom_29 : decode cX7_tellRoom 29 = .ok (.bipush 10, 2) := by decide +kernel
theorem dX7_tellRoom_31 : decode cX7_tellRoom 31 = .ok (.iadd, 1) := by decide +kernel
theorem dX7_tellRoom_32 : decode cX7_tellRoom 32 = .ok (.goto 5, 3) := by decide +kernel
theorem dX7_tellRoom_35 : decode cX7_tellRoom 35 = .ok (.bipush (-2), 2) := by decide +kernel
theorem dX7_tellRoom_37 : decode cX7_tellRoom 37 = .ok (.ireturn, 1) := by decide +kernel
theorem dX7_tellBad_0 : decode cX7_tellBad 0 = .ok (.iload_n 1, 1) := by decide +kernel
theorem dX7_tellBad_1 : decode cX7_tellBad 1 = .ok (.bipush 6, 2) := by decide +kernel
theorem dX7_tellBad_3 : decode cX7_tellBad 3 = .ok (.invokestatic 55, 3) := by decide +kernel
theorem dX7_tellBad_6 : decode cX7_tellBad 6 = .ok (.ifCond .eq 17, 3) := by decide +kernel
theorem dX7_tellBad_9 : decode cX7_tellBad 9 = .ok (.iload_n 2, 1) := by decide +kernel
theorem dX7_tellBad_10 : decode cX7_tellBad 10 = .ok (.bipush 6, 2) := by decide +kernel
theorem dX7_tellBad_12 : decode cX7_tellBad 12 = .ok (.invokestatic 55, 3) := by decide +kernel
theorem dX7_tellBad_15 : decode cX7_tellBad 15 = .ok (.ifCond .eq 8, 3) := by decide +kernel
theorem dX7_tellBad_18 : decode cX7_tellBad 18 = .ok (.iload_n 1, 1) := by decide +kernel
theorem dX7_tellBad_19 : decode cX7_tellBad 19 = .ok (.iload_n 2, 1) := by decide +kernel
theorem dX7_tellBad_20 : decode cX7_tellBad 20 = .ok (.if_icmp .ne 6, 3) := by decide +kernel
theorem dX7_tellBad_23 : decode cX7_tellBad 23 = .ok (.bipush (-2), 2) := by decide +kernel
theorem dX7_tellBad_25 : decode cX7_tellBad 25 = .ok (.ireturn, 1) := by decide +kernel
theorem dX7_tellBad_26 : decode cX7_tellBad 26 = .ok (.aload_n 0, 1) := by decide +kernel
theorem dX7_tellBad_27 : decode cX7_tellBad 27 = .ok (.getfield 12, 3) := by decide +kernel
theorem dX7_tellBad_30 : decode cX7_tellBad 30 = .ok (.getfield 89, 3) := by decide +kernel
theorem dX7_tellBad_33 : decode cX7_tellBad 33 = .ok (.iload_n 1, 1) := by decide +kernel
theorem dX7_tellBad_34 : decode cX7_tellBad 34 = .ok (.bipush 6, 2) := by decide +kernel
theorem dX7_tellBad_36 : decode cX7_tellBad 36 = .ok (.imul, 1) := by decide +kernel
theorem dX7_tellBad_37 : decode cX7_tellBad 37 = .ok (.iload_n 2, 1) := by decide +kernel
theorem dX7_tellBad_38 : decode cX7_tellBad 38 = .ok (.iadd, 1) := by decide +kernel
theorem dX7_tellBad_39 : decode cX7_tellBad 39 = .ok (.iaload, 1) := by decide +kernel
theorem dX7_tellBad_40 : decode cX7_tellBad 40 = .ok (.bipush 10, 2) := by decide +kernel
theorem dX7_tellBad_42 : decode cX7_tellBad 42 = .ok (.iadd, 1) := by decide +kernel
theorem dX7_tellBad_43 : decode cX7_tellBad 43 = .ok (.ireturn, 1) := by decide +kernel
theorem dX7_isAmong_0 : decode cX7_isAmong 0 = .ok (.iload_n 0, 1) := by decide +kernel
theorem dX7_isAmong_1 : decode cX7_isAmong 1 = .ok (.ifCond .lt 12, 3) := by decide +kernel
theorem dX7_isAmong_4 : decode cX7_isAmong 4 = .ok (.iload_n 0, 1) := by decide +kernel
theorem dX7_isAmong_5 : decode cX7_isAmong 5 = .ok (.iload_n 1, 1) := by decide +kernel
theorem dX7_isAmong_6 : decode cX7_isAmong 6 = .ok (.if_icmp .ge 7, 3) := by decide +kernel
theorem dX7_isAmong_9 : decode cX7_isAmong 9 = .ok (.iconst 1, 1) := by decide +kernel
theorem dX7_isAmong_10 : decode cX7_isAmong 10 = .ok (.goto 4, 3) := by decide +kernel
theorem dX7_isAmong_13 : decode cX7_isAmong 13 = .ok (.iconst 0, 1) := by decide +kernel
theorem dX7_isAmong_14 : decode cX7_isAmong 14 = .ok (.ireturn, 1) := by decide +kernel
theorem dX7_isBetween_0 : decode cX7_isBetween 0 = .ok (.iload_n 0, 1) := by decide +kernel
theorem dX7_isBetween_1 : decode cX7_isBetween 1 = .ok (.iload_n 1, 1) := by decide +kernel
theorem dX7_isBetween_2 : decode cX7_isBetween 2 = .ok (.if_icmp .lt 12, 3) := by decide +kernel
theorem dX7_isBetween_5 : decode cX7_isBetween 5 = .ok (.iload_n 0, 1) := by decide +kernel
theorem dX7_isBetween_6 : decode cX7_isBetween 6 = .ok (.iload_n 2, 1) := by decide +kernel
theorem dX7_isBetween_7 : decode cX7_isBetween 7 = .ok (.if_icmp .gt 7, 3) := by decide +kernel
theorem dX7_isBetween_10 : decode cX7_isBetween 10 = .ok (.iconst 1, 1) := by decide +kernel
theorem dX7_isBetween_11 : decode cX7_isBetween 11 = .ok (.goto 4, 3) := by decide +kernel
theorem dX7_isBetween_14 : decode cX7_isBetween 14 = .ok (.iconst 0, 1) := by decide +kernel
theorem dX7_isBetween_15 : decode cX7_isBetween 15 = .ok (.ireturn, 1) := by decide +kernel
theorem dX7_withinIll_0 : decode cX7_withinIll 0 = .ok (.iload_n 0, 1) := by decide +kernel
theorem dX7_withinIll_1 : decode cX7_withinIll 1 = .ok (.ifCond .ge 5, 3) := by decide +kernel
theorem dX7_withinIll_4 : decode cX7_withinIll 4 = .ok (.iconst 0, 1) := by decide +kernel
theorem dX7_withinIll_5 : decode cX7_withinIll 5 = .ok (.ireturn, 1) := by decide +kernel
theorem dX7_withinIll_6 : decode cX7_withinIll 6 = .ok (.iload_n 0, 1) := by decide +kernel
theorem dX7_withinIll_7 : decode cX7_withinIll 7 = .ok (.bipush 20, 2) := by decide +kernel
theorem dX7_withinIll_9 : decode cX7_withinIll 9 = .ok (.if_icmp .le 8, 3) := by decide +kernel
theorem dX7_withinIll_12 : decode cX7_withinIll 12 = .ok (.bipush 20, 2) := by decide +kernel
theorem dX7_withinIll_14 : decode cX7_withinIll 14 = .ok (.goto 4, 3) := by decide +kernel
theorem dX7_withinIll_17 : decode cX7_withinIll 17 = .ok (.iload_n 0, 1) := by decide +kernel
theorem dX7_withinIll_18 : decode cX7_withinIll 18 = .ok (.ireturn, 1) := by decide +kernel
theorem dX7_hoursUntilGone_0 : decode cX7_hoursUntilGone 0 = .ok (.iload_n 0, 1) := by decide +kernel
theorem dX7_hoursUntilGone_1 : decode cX7_hoursUntilGone 1 = .ok (.ifCond .ne 9, 3) := by decide +kernel
theorem dX7_hoursUntilGone_4 : decode cX7_hoursUntilGone 4 = .ok (.iload_n 1, 1) := by decide +kernel
theorem dX7_hoursUntilGone_5 : decode cX7_hoursUntilGone 5 = .ok (.ifCond .gt 5, 3) := by decide +kernel
theorem dX7_hoursUntilGone_8 : decode cX7_hoursUntilGone 8 = .ok (.iconst 0, 1) := by decide +kernel
theorem dX7_hoursUntilGone_9 : decode cX7_hoursUntilGone 9 = .ok (.ireturn, 1) := by decide +kernel
theorem dX7_hoursUntilGone_10 : decode cX7_hoursUntilGone 10 = .ok (.iload_n 1, 1) := by decide +kernel
theorem dX7_hoursUntilGone_11 : decode cX7_hoursUntilGone 11 = .ok (.ifCond .lt 7, 3) := by decide +kernel
theorem dX7_hoursUntilGone_14 : decode cX7_hoursUntilGone 14 = .ok (.sipush 1000, 3) := by decide +kernel
theorem dX7_hoursUntilGone_17 : decode cX7_hoursUntilGone 17 = .ok (.ireturn, 1) := by decide +kernel
theorem dX7_hoursUntilGone_18 : decode cX7_hoursUntilGone 18 = .ok (.iload_n 0, 1) := by decide +kernel
theorem dX7_hoursUntilGone_19 : decode cX7_hoursUntilGone 19 = .ok (.iload_n 1, 1) := by decide +kernel
theorem dX7_hoursUntilGone_20 : decode cX7_hoursUntilGone 20 = .ok (.isub, 1) := by decide +kernel
theorem dX7_hoursUntilGone_21 : decode cX7_hoursUntilGone 21 = .ok (.iconst 1, 1) := by decide +kernel
theorem dX7_hoursUntilGone_22 : decode cX7_hoursUntilGone 22 = .ok (.isub, 1) := by decide +kernel
theorem dX7_hoursUntilGone_23 : decode cX7_hoursUntilGone 23 = .ok (.iload_n 1, 1) := by decide +kernel
theorem dX7_hoursUntilGone_24 : decode cX7_hoursUntilGone 24 = .ok (.ineg, 1) := by decide +kernel
theorem dX7_hoursUntilGone_25 : decode cX7_hoursUntilGone 25 = .ok (.idiv, 1) := by decide +kernel
theorem dX7_hoursUntilGone_26 : decode cX7_hoursUntilGone 26 = .ok (.ireturn, 1) := by decide +kernel
theorem dX8_init_0 : decode cX8_init 0 = .ok (.aload_n 0, 1) := by decide +kernel
theorem dX8_init_1 : decode cX8_init 1 = .ok (.invokespecial 1, 3) := by decide +kernel
theorem dX8_init_4 : decode cX8_init 4 = .ok (.aload_n 0, 1) := by decide +kernel
theorem dX8_init_5 : decode cX8_init 5 = .ok (.bipush 26, 2) := by decide +kernel
theorem dX8_init_7 : decode cX8_init 7 = .ok (.newarray .int, 2) := by decide +kernel
theorem dX8_init_9 : decode cX8_init 9 = .ok (.putfield 7, 3) := by decide +kernel
theorem dX8_init_12 : decode cX8_init 12 = .ok (.aload_n 0, 1) := by decide +kernel
theorem dX8_init_13 : decode cX8_init 13 = .ok (.bipush 26, 2) := by decide +kernel
theorem dX8_init_15 : decode cX8_init 15 = .ok (.newarray .int, 2) := by decide +kernel
theorem dX8_init_17 : decode cX8_init 17 = .ok (.putfield 13, 3) := by decide +kernel
theorem dX8_init_20 : decode cX8_init 20 = .ok (.aload_n 0, 1) := by decide +kernel
theorem dX8_init_21 : decode cX8_init 21 = .ok (.bipush 12, 2) := by decide +kernel
theorem dX8_init_23 : decode cX8_init 23 = .ok (.newarray .int, 2) := by decide +kernel
theorem dX8_init_25 : decode cX8_init 25 = .ok (.putfield 16, 3) := by decide +kernel
theorem dX8_init_28 : decode cX8_init 28 = .ok (.aload_n 0, 1) := by decide +kernel
theorem dX8_init_29 : decode cX8_init 29 = .ok (.bipush 36, 2) := by decide +kernel
theorem dX8_init_31 : decode cX8_init 31 = .ok (.newarray .int, 2) := by decide +kernel
theorem dX8_init_33 : decode cX8_init 33 = .ok (.putfield 19, 3) := by decide +kernel
theorem dX8_init_36 : decode cX8_init 36 = .ok (.aload_n 0, 1) := by decide +kernel
theorem dX8_init_37 : decode cX8_init 37 = .ok (.bipush 6, 2) := by decide +kernel
theorem dX8_init_39 : decode cX8_init 39 = .ok (.newarray .int, 2) := by decide +kernel
theorem dX8_init_41 : decode cX8_init 41 = .ok (.putfield 22, 3) := by decide +kernel
theorem dX8_init_44 : decode cX8_init 44 = .ok (.aload_n 0, 1) := by decide +kernel
theorem dX8_init_45 : decode cX8_init 45 = .ok (.bipush 24, 2) := by decide +kernel
theorem dX8_init_47 : decode cX8_init 47 = .ok (.newarray .int, 2) := by decide +kernel
theorem dX8_init_49 : decode cX8_init 49 = .ok (.putfield 25, 3) := by decide +kernel
theorem dX8_init_52 : decode cX8_init 52 = .ok (.aload_n 0, 1) := by decide +kernel
theorem dX8_init_53 : decode cX8_init 53 = .ok (.bipush 60, 2) := by decide +kernel
theorem dX8_init_55 : decode cX8_init 55 = .ok (.newarray .int, 2) := by decide +kernel
theorem dX8_init_57 : decode cX8_init 57 = .ok (.putfield 28, 3) := by decide +kernel
theorem dX8_init_60 : decode cX8_init 60 = .ok (.aload_n 0, 1) := by decide +kernel
theorem dX8_init_61 : decode cX8_init 61 = .ok (.bipush 18, 2) := by decide +kernel
theorem dX8_init_63 : decode cX8_init 63 = .ok (.newarray .int, 2) := by decide +kernel
theorem dX8_init_65 : decode cX8_init 65 = .ok (.putfield 31, 3) := by decide +kernel
theorem dX8_init_68 : decode cX8_init 68 = .ok (.aload_n 0, 1) := by decide +kernel
theorem dX8_init_69 : decode cX8_init 69 = .ok (.bipush 6, 2) := by decide +kernel
theorem dX8_init_71 : decode cX8_init 71 = .ok (.newarray .int, 2) := by decide +kernel
theorem dX8_init_73 : decode cX8_init 73 = .ok (.putfield 34, 3) := by decide +kernel
theorem dX8_init_76 : decode cX8_init 76 = .ok (.aload_n 0, 1) := by decide +kernel
theorem dX8_init_77 : decode cX8_init 77 = .ok (.sipush 448, 3) := by decide +kernel
theorem dX8_init_80 : decode cX8_init 80 = .ok (.newarray .int, 2) := by decide +kernel
theorem dX8_init_82 : decode cX8_init 82 = .ok (.putfield 37, 3) := by decide +kernel
theorem dX8_init_85 : decode cX8_init 85 = .ok (.aload_n 0, 1) := by decide +kernel
theorem dX8_init_86 : decode cX8_init 86 = .ok (.bipush 100, 2) := by decide +kernel
theorem dX8_init_88 : decode cX8_init 88 = .ok (.newarray .long, 2) := by decide +kernel
theorem dX8_init_90 : decode cX8_init 90 = .ok (.putfield 40, 3) := by decide +kernel
theorem dX8_init_93 : decode cX8_init 93 = .ok (.aload_n 0, 1) := by decide +kernel
theorem dX8_init_94 : decode cX8_init 94 = .ok (.bipush 21, 2) := by decide +kernel
theorem dX8_init_96 : decode cX8_init 96 = .ok (.newarray .long, 2) := by decide +kernel
theorem dX8_init_98 : decode cX8_init 98 = .ok (.putfield 44, 3) := by decide +kernel
theorem dX8_init_101 : decode cX8_init 101 = .ok (.aload_n 0, 1) := by decide +kernel
theorem dX8_init_102 : decode cX8_init 102 = .ok (.bipush 21, 2) := by decide +kernel
theorem dX8_init_104 : decode cX8_init 104 = .ok (.newarray .long, 2) := by decide +kernel
theorem dX8_init_106 : decode cX8_init 106 = .ok (.putfield 47, 3) := by decide +kernel
theorem dX8_init_109 : decode cX8_init 109 = .ok (.aload_n 0, 1) := by decide +kernel
theorem dX8_init_110 : decode cX8_init 110 = .ok (.sipush 240, 3) := by decide +kernel
theorem dX8_init_113 : decode cX8_init 113 = .ok (.newarray .int, 2) := by decide +kernel
theorem dX8_init_115 : decode cX8_init 115 = .ok (.putfield 50, 3) := by decide +kernel
theorem dX8_init_118 : decode cX8_init 118 = .ok (.aload_n 0, 1) := by decide +kernel
theorem dX8_init_119 : decode cX8_init 119 = .ok (.iconst 2, 1) := by decide +kernel
theorem dX8_init_120 : decode cX8_init 120 = .ok (.newarray .boolean, 2) := by decide +kernel
theorem dX8_init_122 : decode cX8_init 122 = .ok (.putfield 53, 3) := by decide +kernel
theorem dX8_init_125 : decode cX8_init 125 = .ok (.aload_n 0, 1) := by decide +kernel
theorem dX8_init_126 : decode cX8_init 126 = .ok (.iconst 0, 1) := by decide +kernel
theorem dX8_init_127 : decode cX8_init 127 = .ok (.putfield 57, 3) := by decide +kernel
theorem dX8_init_130 : decode cX8_init 130 = .ok (.return_, 1) := by decide +kernel
theorem dX8_in_0 : decode cX8_in 0 = .ok (.iload_n 0, 1) := by decide +kernel
theorem dX8_in_1 : decode cX8_in 1 = .ok (.iload_n 1, 1) := by decide +kernel
theorem dX8_in_2 : decode cX8_in 2 = .ok (.if_icmp .lt 12, 3) := by decide +kernel
theorem dX8_in_5 : decode cX8_in 5 = .ok (.iload_n 0, 1) := by decide +kernel
theorem dX8_in_6 : decode cX8_in 6 = .ok (.iload_n 2, 1) := by decide +kernel
theorem dX8_in_7 : decode cX8_in 7 = .ok (.if_icmp .gt 7, 3) := by decide +kernel
theorem dX8_in_10 : decode cX8_in 10 = .ok (.iconst 1, 1) := by decide +kernel
theorem dX8_in_11 : decode cX8_in 11 = .ok (.goto 4, 3) := by decide +kernel
theorem dX8_in_14 : decode cX8_in 14 = .ok (.iconst 0, 1) := by decide +kernel
theorem dX8_in_15 : decode cX8_in 15 = .ok (.ireturn, 1) := by decide +kernel
theorem dX8_has_0 : decode cX8_has 0 = .ok (.iload_n 0, 1) := by decide +kernel
theorem dX8_has_1 : decode cX8_has 1 = .ok (.iload_n 1, 1) := by decide +kernel
theorem dX8_has_2 : decode cX8_has 2 = .ok (.ishr, 1) := by decide +kernel
theorem dX8_has_3 : decode cX8_has 3 = .ok (.iconst 1, 1) := by decide +kernel
theorem dX8_has_4 : decode cX8_has 4 = .ok (.iand, 1) := by decide +kernel
theorem dX8_has_5 : decode cX8_has 5 = .ok (.iconst 1, 1) := by decide +kernel
theorem dX8_has_6 : decode cX8_has 6 = .ok (.if_icmp .ne 7, 3) := by decide +kernel
theorem dX8_has_9 : decode cX8_has 9 = .ok (.iconst 1, 1) := by decide +kernel
theorem dX8_has_10 : decode cX8_has 10 = .ok (.goto 4, 3) := by decide +kernel
theorem dX8_has_13 : decode cX8_has 13 = .ok (.iconst 0, 1) := by decide +kernel
theorem dX8_has_14 : decode cX8_has 14 = .ok (.ireturn, 1) := by decide +kernel
theorem dX8_bits_0 : decode cX8_bits 0 = .ok (.iconst 0, 1) := by decide +kernel
theorem dX8_bits_1 : decode cX8_bits 1 = .ok (.istore_n 1, 1) := by decide +kernel
theorem dX8_bits_2 : decode cX8_bits 2 = .ok (.iconst 0, 1) := by decide +kernel
theorem dX8_bits_3 : decode cX8_bits 3 = .ok (.istore_n 2, 1) := by decide +kernel
theorem dX8_bits_4 : decode cX8_bits 4 = .ok (.iload_n 2, 1) := by decide +kernel
theorem dX8_bits_5 : decode cX8_bits 5 = .ok (.bipush 6, 2) := by decide +kernel
theorem dX8_bits_7 : decode cX8_bits 7 = .ok (.if_icmp .ge 17, 3) := by decide +kernel
theorem dX8_bits_10 : decode cX8_bits 10 = .ok (.iload_n 1, 1) := by decide +kernel
theorem dX8_bits_11 : decode cX8_bits 11 = .ok (.iload_n 0, 1) := by decide +kernel
theorem dX8_bits_12 : decode cX8_bits 12 = .ok (.iload_n 2, 1) := by decide +kernel
theorem dX8_bits_13 : decode cX8_bits 13 = .ok (.ishr, 1) := by decide +kernel
theorem dX8_bits_14 : decode cX8_bits 14 = .ok (.iconst 1, 1) := by decide +kernel
theorem dX8_bits_15 : decode cX8_bits 15 = .ok (.iand, 1) := by decide +kernel
theorem dX8_bits_16 : decode cX8_bits 16 = .ok (.iadd, 1) := by decide +kernel
theorem dX8_bits_17 : decode cX8_bits 17 = .ok (.istore_n 1, 1) := by decide +kernel
theorem dX8_bits_18 : decode cX8_bits 18 = .ok (.iinc 2 1, 3) := by decide +kernel
theorem dX8_bits_21 : decode cX8_bits 21 = .ok (.goto (-17), 3) := by decide +kernel
theorem dX8_bits_24 : decode cX8_bits 24 = .ok (.iload_n 1, 1) := by decide +kernel
theorem dX8_bits_25 : decode cX8_bits 25 = .ok (.ireturn, 1) := by decide +kernel
theorem dX8_isThere_0 : decode cX8_isThere 0 = .ok (.iload_n 1, 1) := by decide +kernel
theorem dX8_isThere_1 : decode cX8_isThere 1 = .ok (.iconst 0, 1) := by decide +kernel
theorem dX8_isThere_2 : decode cX8_isThere 2 = .ok (.iconst 5, 1) := by decide +kernel
theorem dX8_isThere_3 : decode cX8_isThere 3 = .ok (.invokestatic 61, 3) := by decide +kernel
theorem dX8_isThere_6 : decode cX8_isThere 6 = .ok (.ifCond .eq 18, 3) := by decide +kernel
theorem dX8_isThere_9 : decode cX8_isThere 9 = .ok (.aload_n 0, 1) := by decide +kernel
theorem dX8_isThere_10 : decode cX8_isThere 10 = .ok (.getfield 57, 3) := by decide +kernel
theorem dX8_isThere_13 : decode cX8_isThere 13 = .ok (.iload_n 1, 1) := by decide +kernel
theorem dX8_isThere_14 : decode cX8_isThere 14 = .ok (.invokestatic 65, 3) := by decide +kernel
theorem dX8_isThere_17 : decode cX8_isThere 17 = .ok (.ifCond .eq 7, 3) := by decide +kernel
theorem dX8_isThere_20 : decode cX8_isThere 20 = .ok (.iconst 1, 1) := by decide +kernel
theorem dX8_isThere_21 : decode cX8_isThere 21 = .ok (.goto 4, 3) := by decide +kernel
theorem dX8_isThere_24 : decode cX8_isThere 24 = .ok (.iconst 0, 1) := by decide +kernel
theorem dX8_isThere_25 : decode cX8_isThere 25 = .ok (.ireturn, 1) := by decide +kernel
theorem dX8_piece_0 : decode cX8_piece 0 = .ok (.iload_n 1, 1) := by decide +kernel
theorem dX8_piece_1 : decode cX8_piece 1 = .ok (.iconst 0, 1) := by decide +kernel
theorem dX8_piece_2 : decode cX8_piece 2 = .ok (.iconst 5, 1) := by decide +kernel
theorem dX8_piece_3 : decode cX8_piece 3 = .ok (.invokestatic 61, 3) := by decide +kernel
theorem dX8_piece_6 : decode cX8_piece 6 = .ok (.ifCond .ne 5, 3) := by decide +kernel
theorem dX8_piece_9 : decode cX8_piece 9 = .ok (.iconst (-1), 1) := by decide +kernel
theorem dX8_piece_10 : decode cX8_piece 10 = .ok (.ireturn, 1) := by decide +kernel
theorem dX8_piece_11 : decode cX8_piece 11 = .ok (.iload_n 2, 1) := by decide +kernel
theorem dX8_piece_12 : decode cX8_piece 12 = .ok (.iconst 0, 1) := by decide +kernel
theorem dX8_piece_13 : decode cX8_piece 13 = .ok (.bipush 20, 2) := by decide +kernel
theorem dX8_piece_15 : decode cX8_piece 15 = .ok (.invokestatic 61, 3) := by decide +kernel
theorem dX8_piece_18 : decode cX8_piece 18 = .ok (.ifCond .eq 24, 3) := by decide +kernel
theorem dX8_piece_21 : decode cX8_piece 21 = .ok (.iload_n 3, 1) := by decide +kernel
theorem dX8_piece_22 : decode cX8_piece 22 = .ok (.iconst 0, 1) := by decide +kernel
theorem dX8_piece_23 : decode cX8_piece 23 = .ok (.bipush 20, 2) := by decide +kernel
theorem dX8_piece_25 : decode cX8_piece 25 = .ok (.invokestatic 61, 3) := by decide +kernel
theorem dX8_piece_28 : decode cX8_piece 28 = .ok (.ifCond .eq 14, 3) := by decide +kernel
theorem dX8_piece_31 : decode cX8_piece 31 = .ok (.iload 4, 2) := by decide +kernel
theorem dX8_piece_33 : decode cX8_piece 33 = .ok (.iconst 0, 1) := by decide +kernel
theorem dX8_piece_34 : decode cX8_piece 34 = .ok (.bipush 20, 2) := by decide +kernel
theorem dX8_piece_36 : decode cX8_piece 36 = .ok (.invokestatic 61, 3) := by decide +kernel
theorem dX8_piece_39 : decode cX8_piece 39 = .ok (.ifCond .ne 6, 3) := by decide +kernel
theorem dX8_piece_42 : decode cX8_piece 42 = .ok (.bipush (-2), 2) := by decide +kernel
theorem dX8_piece_44 : decode cX8_piece 44 = .ok (.ireturn, 1) := by decide +kernel
theorem dX8_piece_45 : decode cX8_piece 45 = .ok (.aload_n 0, 1) := by decide +kernel
theorem dX8_piece_46 : decode cX8_piece 46 = .ok (.dup, 1) := by decide +kernel
theorem dX8_piece_47 : decode cX8_piece 47 = .ok (.getfield 57, 3) := by decide +kernel
theorem dX8_piece_50 : decode cX8_piece 50 = .ok (.iconst 1, 1) := by decide +kernel
theorem dX8_piece_51 : decode cX8_piece 51 = .ok (.iload_n 1, 1) := by decide +kernel
theorem dX8_piece_52 : decode cX8_piece 52 = .ok (.ishl, 1) := by decide +kernel
theorem dX8_piece_53 : decode cX8_piece 53 = .ok (.ior, 1) := by decide +kernel
theorem dX8_piece_54 : decode cX8_piece 54 = .ok (.putfield 57, 3) := by decide +kernel
theorem dX8_piece_57 : decode cX8_piece 57 = .ok (.aload_n 0, 1) := by decide +kernel
theorem dX8_piece_58 : decode cX8_piece 58 = .ok (.getfield 7, 3) := by decide +kernel
theorem dX8_piece_61 : decode cX8_piece 61 = .ok (.iconst 3, 1) := by decide +kernel
theorem dX8_piece_62 : decode cX8_piece 62 = .ok (.iload_n 1, 1) := by decide +kernel
theorem dX8_piece_63 : decode cX8_piece 63 = .ok (.imul, 1) := by decide +kernel
theorem dX8_piece_64 : decode cX8_piece 64 = .ok (.iload_n 2, 1) := by decide +kernel
theorem dX8_piece_65 : decode cX8_piece 65 = .ok (.iastore, 1) := by decide +kernel
theorem dX8_piece_66 : decode cX8_piece 66 = .ok (.aload_n 0, 1) := by decide +kernel
theorem dX8_piece_67 : decode cX8_piece 67 = .ok (.getfield 7, 3) := by decide +kernel
theorem dX8_piece_70 : decode cX8_piece 70 = .ok (.iconst 3, 1) := by decide +kernel
theorem dX8_piece_71 : decode cX8_piece 71 = .ok (.iload_n 1, 1) := by decide +kernel
theorem dX8_piece_72 : decode cX8_piece 72 = .ok (.imul, 1) := by decide +kernel
theorem dX8_piece_73 : decode cX8_piece 73 = .ok (.iconst 1, 1) := by decide +kernel
theorem dX8_piece_74 : decode cX8_piece 74 = .ok (.iadd, 1) := by decide +kernel
theorem dX8_piece_75 : decode cX8_piece 75 = .ok (.iload_n 3, 1) := by decide +kernel
theorem dX8_piece_76 : decode cX8_piece 76 = .ok (.iastore, 1) := by decide +kernel
theorem dX8_piece_77 : decode cX8_piece 77 = .ok (.aload_n 0, 1) := by decide +kernel
theorem dX8_piece_78 : decode cX8_piece 78 = .ok (.getfield 7, 3) := by decide +kernel
theorem dX8_piece_81 : decode cX8_piece 81 = .ok (.iconst 3, 1) := by decide +kernel
theorem dX8_piece_82 : decode cX8_piece 82 = .ok (.iload_n 1, 1) := by decide +kernel
theorem dX8_piece_83 : decode cX8_piece 83 = .ok (.imul, 1) := by decide +kernel
theorem dX8_piece_84 : decode cX8_piece 84 = .ok (.iconst 2, 1) := by decide +kernel
theorem dX8_piece_85 : decode cX8_piece 85 = .ok (.iadd, 1) := by decide +kernel
theorem dX8_piece_86 : decode cX8_piece 86 = .ok (.iload 4, 2) := by decide +kernel
theorem dX8_piece_88 : decode cX8_piece 88 = .ok (.iastore, 1) := by decide +kernel
theorem dX8_piece_89 : decode cX8_piece 89 = .ok (.aload_n 0, 1) := by decide +kernel
theorem dX8_piece_90 : decode cX8_piece 90 = .ok (.getfield 7, 3) := by decide +kernel
theorem dX8_piece_93 : decode cX8_piece 93 = .ok (.bipush 18, 2) := by decide +kernel
theorem dX8_piece_95 : decode cX8_piece 95 = .ok (.iload_n 1, 1) := by decide +kernel
theorem dX8_piece_96 : decode cX8_piece 96 = .ok (.iadd, 1) := by decide +kernel
theorem dX8_piece_97 : decode cX8_piece 97 = .ok (.iconst 0, 1) := by decide +kernel
theorem dX8_piece_98 : decode cX8_piece 98 = .ok (.iastore, 1) := by decide +kernel
theorem dX8_piece_99 : decode cX8_piece 99 = .ok (.aload_n 0, 1) := by decide +kernel
theorem dX8_piece_100 : decode cX8_piece 100 = .ok (.getfield 7, 3) := by decide +kernel
theorem dX8_piece_103 : decode cX8_piece 103 = .ok (.bipush 24, 2) := by decide +kernel
theorem dX8_piece_105 : decode cX8_piece 105 = .ok (.dup2, 1) := by decide +kernel
theorem dX8_piece_106 : decode cX8_piece 106 = .ok (.iaload, 1) := by decide +kernel
theorem dX8_piece_107 : decode cX8_piece 107 = .ok (.iconst 1, 1) := by decide +kernel
theorem dX8_piece_108 : decode cX8_piece 108 = .ok (.iload_n 1, 1) := by decide +kernel
theorem dX8_piece_109 : decode cX8_piece 109 = .ok (.ishl, 1) := by decide +kernel
theorem dX8_piece_110 : decode cX8_piece 110 = .ok (.iconst (-1), 1) := by decide +kernel
theorem dX8_piece_111 : decode cX8_piece 111 = .ok (.ixor, 1) := by decide +kernel
theorem dX8_piece_112 : decode cX8_piece 112 = .ok (.iand, 1) := by decide +kernel
theorem dX8_piece_113 : decode cX8_piece 113 = .ok (.iastore, 1) := by decide +kernel
theorem dX8_piece_114 : decode cX8_piece 114 = .ok (.aload_n 0, 1) := by decide +kernel
theorem dX8_piece_115 : decode cX8_piece 115 = .ok (.getfield 57, 3) := by decide +kernel
theorem dX8_piece_118 : decode cX8_piece 118 = .ok (.invokestatic 69, 3) := by decide +kernel
theorem dX8_piece_121 : decode cX8_piece 121 = .ok (.ireturn, 1) := by decide +kernel
theorem dX8_leave_0 : decode cX8_leave 0 = .ok (.aload_n 0, 1) := by decide +kernel
theorem dX8_leave_1 : decode cX8_leave 1 = .ok (.iload_n 1, 1) := by decide +kernel
theorem dX8_leave_2 : decode cX8_leave 2 = .ok (.invokevirtual 73, 3) := by decide +kernel
theorem dX8_leave_5 : decode cX8_leave 5 = .ok (.ifCond .ne 5, 3) := by decide +kernel
theorem dX8_leave_8 : decode cX8_leave 8 = .ok (.iconst (-1), 1) := by decide +kernel
theorem dX8_leave_9 : decode cX8_leave 9 = .ok (.ireturn, 1) := by decide +kernel
theorem dX8_leave_10 : decode cX8_leave 10 = .ok (.aload_n 0, 1) := by decide +kernel
theorem dX8_leave_11 : decode cX8_leave 11 = .ok (.dup, 1) := by decide +kernel
theorem dX8_leave_12 : decode cX8_leave 12 = .ok (.getfield 57, 3) := by decide +kernel
theorem dX8_leave_15 : decode cX8_leave 15 = .ok (.iconst 1, 1) := by decide +kernel
theorem dX8_leave_16 : decode cX8_leave 16 = .ok (.iload_n 1, 1) := by decide +kernel
theorem dX8_leave_17 : decode cX8_leave 17 = .ok (.ishl, 1) := by decide +kernel
theorem dX8_leave_18 : decode cX8_leave 18 = .ok (.iconst (-1), 1) := by decide +kernel
theorem dX8_leave_19 : decode cX8_leave 19 = .ok (.ixor, 1) := by decide +kernel
theorem dX8_leave_20 : decode cX8_leave 20 = .ok (.iand, 1) := by decide +kernel
theorem dX8_leave_21 : decode cX8_leave 21 = .ok (.putfield 57, 3) := by decide +kernel
theorem dX8_leave_24 : decode cX8_leave 24 = .ok (.aload_n 0, 1) := by decide +kernel
theorem dX8_leave_25 : decode cX8_leave 25 = .ok (.getfield 7, 3) := by decide +kernel
theorem dX8_leave_28 : decode cX8_leave 28 = .ok (.bipush 24, 2) := by decide +kernel
theorem dX8_leave_30 : decode cX8_leave 30 = .ok (.dup2, 1) := by decide +kernel
theorem dX8_leave_31 : decode cX8_leave 31 = .ok (.iaload, 1) := by decide +kernel
theorem dX8_leave_32 : decode cX8_leave 32 = .ok (.iconst 1, 1) := by decide +kernel
theorem dX8_leave_33 : decode cX8_leave 33 = .ok (.iload_n 1, 1) := by decide +kernel
theorem dX8_leave_34 : decode cX8_leave 34 = .ok (.ishl, 1) := by decide +kernel
theorem dX8_leave_35 : decode cX8_leave 35 = .ok (.iconst (-1), 1) := by decide +kernel
theorem dX8_leave_36 : decode cX8_leave 36 = .ok (.ixor, 1) := by decide +kernel
theorem dX8_leave_37 : decode cX8_leave 37 = .ok (.iand, 1) := by decide +kernel
theorem dX8_leave_38 : decode cX8_leave 38 = .ok (.iastore, 1) := by decide +kernel
theorem dX8_leave_39 : decode cX8_leave 39 = .ok (.aload_n 0, 1) := by decide +kernel
theorem dX8_leave_40 : decode cX8_leave 40 = .ok (.getfield 57, 3) := by decide +kernel
theorem dX8_leave_43 : decode cX8_leave 43 = .ok (.invokestatic 69, 3) := by decide +kernel
theorem dX8_leave_46 : decode cX8_leave 46 = .ok (.ireturn, 1) := by decide +kernel
theorem dX8_room_0 : decode cX8_room 0 = .ok (.iload_n 1, 1) := by decide +kernel
theorem dX8_room_1 : decode cX8_room 1 = .ok (.iconst 0, 1) := by decide +kernel
theorem dX8_room_2 : decode cX8_room 2 = .ok (.iconst 3, 1) := by decide +kernel
theorem dX8_room_3 : decode cX8_room 3 = .ok (.invokestatic 61, 3) := by decide +kernel
theorem dX8_room_6 : decode cX8_room 6 = .ok (.ifCond .ne 5, 3) := by decide +kernel
theorem dX8_room_9 : decode cX8_room 9 = .ok (.iconst (-1), 1) := by decide +kernel
theorem dX8_room_10 : decode cX8_room 10 = .ok (.ireturn, 1) := by decide +kernel
theorem dX8_room_11 : decode cX8_room 11 = .ok (.iload_n 2, 1) := by decide +kernel
theorem dX8_room_12 : decode cX8_room 12 = .ok (.iconst 0, 1) := by decide +kernel
theorem dX8_room_13 : decode cX8_room 13 = .ok (.iconst 2, 1) := by decide +kernel
theorem dX8_room_14 : decode cX8_room 14 = .ok (.invokestatic 61, 3) := by decide +kernel
theorem dX8_room_17 : decode cX8_room 17 = .ok (.ifCond .eq 13, 3) := by decide +kernel
theorem dX8_room_20 : decode cX8_room 20 = .ok (.iload_n 3, 1) := by decide +kernel
theorem dX8_room_21 : decode cX8_room 21 = .ok (.bipush (-5), 2) := by decide +kernel
theorem dX8_room_23 : decode cX8_room 23 = .ok (.iconst 5, 1) := by decide +kernel
theorem dX8_room_24 : decode cX8_room 24 = .ok (.invokestatic 61, 3) := by decide +kernel
theorem dX8_room_27 : decode cX8_room 27 = .ok (.ifCond .ne 6, 3) := by decide +kernel
theorem dX8_room_30 : decode cX8_room 30 = .ok (.bipush (-2), 2) := by decide +kernel
theorem dX8_room_32 : decode cX8_room 32 = .ok (.ireturn, 1) := by decide +kernel
theorem dX8_room_33 : decode cX8_room 33 = .ok (.aload_n 0, 1) := by decide +kernel
theorem dX8_room_34 : decode cX8_room 34 = .ok (.getfield 16, 3) := by decide +kernel
theorem dX8_room_37 : decode cX8_room 37 = .ok (.iconst 3, 1) := by decide +kernel
theorem dX8_room_38 : decode cX8_room 38 = .ok (.iload_n 1, 1) := by decide +kernel
theorem dX8_room_39 : decode cX8_room 39 = .ok (.imul, 1) := by decide +kernel
theorem dX8_room_40 : decode cX8_room 40 = .ok (.iload_n 2, 1) := by decide +kernel
theorem dX8_room_41 : decode cX8_room 41 = .ok (.iadd, 1) := by decide +kernel
theorem dX8_room_42 : decode cX8_room 42 = .ok (.iaload, 1) := by decide +kernel
theorem dX8_room_43 : decode cX8_room 43 = .ok (.istore 4, 2) := by decide +kernel
theorem dX8_room_45 : decode cX8_room 45 = .ok (.aload_n 0, 1) := by decide +kernel
theorem dX8_room_46 : decode cX8_room 46 = .ok (.getfield 16, 3) := by decide +kernel
theorem dX8_room_49 : decode cX8_room 49 = .ok (.iconst 3, 1) := by decide +kernel
theorem dX8_room_50 : decode cX8_room 50 = .ok (.iload_n 1, 1) := by decide +kernel
theorem dX8_room_51 : decode cX8_room 51 = .ok (.imul, 1) := by decide +kernel
theorem dX8_room_52 : decode cX8_room 52 = .ok (.iload_n 2, 1) := by decide +kernel
theorem dX8_room_53 : decode cX8_room 53 = .ok (.iadd, 1) := by decide +kernel
theorem dX8_room_54 : decode cX8_room 54 = .ok (.iload_n 3, 1) := by decide +kernel
theorem dX8_room_55 : decode cX8_room 55 = .ok (.iastore, 1) := by decide +kernel
theorem dX8_room_56 : decode cX8_room 56 = .ok (.iload 4, 2) := by decide +kernel
theorem dX8_room_58 : decode cX8_room 58 = .ok (.bipush 10, 2) := by decide +kernel
theorem dX8_room_60 : decode cX8_room 60 = .ok (.iadd, 1) := by decide +kernel
theorem dX8_room_61 : decode cX8_room 61 = .ok (.ireturn, 1) := by decide +kernel
theorem dX8_areTwo_0 : decode cX8_areTwo 0 = .ok (.iload_n 0, 1) := by decide +kernel
theorem dX8_areTwo_1 : decode cX8_areTwo 1 = .ok (.iconst 0, 1) := by decide +kernel
theorem dX8_areTwo_2 : decode cX8_areTwo 2 = .ok (.iconst 5, 1) := by decide +kernel
theorem dX8_areTwo_3 : decode cX8_areTwo 3 = .ok (.invokestatic 61, 3) := by decide +kernel
theorem dX8_areTwo_6 : decode cX8_areTwo 6 = .ok (.ifCond .eq 21, 3) := by decide +kernel
theorem dX8_areTwo_9 : decode cX8_areTwo 9 = .ok (.iload_n 1, 1) := by decide +kernel
theorem dX8_areTwo_10 : decode cX8_areTwo 10 = .ok (.iconst 0, 1) := by decide +kernel
theorem dX8_areTwo_11 : decode cX8_areTwo 11 = .ok (.iconst 5, 1) := by decide +kernel
theorem dX8_areTwo_12 : decode cX8_areTwo 12 = .ok (.invokestatic 61, 3) := by decide +kernel
theorem dX8_areTwo_15 : decode cX8_areTwo 15 = .ok (.ifCond .eq 12, 3) := by decide +kernel
theorem dX8_areTwo_18 : decode cX8_areTwo 18 = .ok (.iload_n 0, 1) := by decide +kernel
theorem dX8_areTwo_19 : decode cX8_areTwo 19 = .ok (.iload_n 1, 1) := by decide +kernel
theorem dX8_areTwo_20 : decode cX8_areTwo 20 = .ok (.if_icmp .eq 7, 3) := by decide +kernel
theorem dX8_areTwo_23 : decode cX8_areTwo 23 = .ok (.iconst 1, 1) := by decide +kernel
theorem dX8_areTwo_24 : decode cX8_areTwo 24 = .ok (.goto 4, 3) := by decide +kernel
theorem dX8_areTwo_27 : decode cX8_areTwo 27 = .ok (.iconst 0, 1) := by decide +kernel
theorem dX8_areTwo_28 : decode cX8_areTwo 28 = .ok (.ireturn, 1) := by decide +kernel
theorem dX8_bad_0 : decode cX8_bad 0 = .ok (.iload_n 1, 1) := by decide +kernel
theorem dX8_bad_1 : decode cX8_bad 1 = .ok (.iload_n 2, 1) := by decide +kernel
theorem dX8_bad_2 : decode cX8_bad 2 = .ok (.invokestatic 77, 3) := by decide +kernel
theorem dX8_bad_5 : decode cX8_bad 5 = .ok (.ifCond .ne 5, 3) := by decide +kernel
theorem dX8_bad_8 : decode cX8_bad 8 = .ok (.iconst (-1), 1) := by decide +kernel
theorem dX8_bad_9 : decode cX8_bad 9 = .ok (.ireturn, 1) := by decide +kernel
theorem dX8_bad_10 : decode cX8_bad 10 = .ok (.iload_n 3, 1) := by decide +kernel
theorem dX8_bad_11 : decode cX8_bad 11 = .ok (.bipush (-3), 2) := by decide +kernel
theorem dX8_bad_13 : decode cX8_bad 13 = .ok (.iconst 3, 1) := by decide +kernel
theorem dX8_bad_14 : decode cX8_bad 14 = .ok (.invokestatic 61, 3) := by decide +kernel
theorem dX8_bad_17 : decode cX8_bad 17 = .ok (.ifCond .ne 6, 3) := by decide +kernel
theorem dX8_bad_20 : decode cX8_bad 20 = .ok (.bipush (-2), 2) := by decide +kernel
theorem dX8_bad_22 : decode cX8_bad 22 = .ok (.ireturn, 1) := by decide +kernel
theorem dX8_bad_23 : decode cX8_bad 23 = .ok (.aload_n 0, 1) := by decide +kernel
theorem dX8_bad_24 : decode cX8_bad 24 = .ok (.getfield 19, 3) := by decide +kernel
theorem dX8_bad_27 : decode cX8_bad 27 = .ok (.bipush 6, 2) := by decide +kernel
theorem dX8_bad_29 : decode cX8_bad 29 = .ok (.iload_n 1, 1) := by decide +kernel
theorem dX8_bad_30 : decode cX8_bad 30 = .ok (.imul, 1) := by decide +kernel
theorem dX8_bad_31 : decode cX8_bad 31 = .ok (.iload_n 2, 1) := by decide +kernel
theorem dX8_bad_32 : decode cX8_bad 32 = .ok (.iadd, 1) := by decide +kernel
theorem dX8_bad_33 : decode cX8_bad 33 = .ok (.iaload, 1) := by decide +kernel
theorem dX8_bad_34 : decode cX8_bad 34 = .ok (.istore 4, 2) := by decide +kernel
theorem dX8_bad_36 : decode cX8_bad 36 = .ok (.aload_n 0, 1) := by decide +kernel
theorem dX8_bad_37 : decode cX8_bad 37 = .ok (.getfield 19, 3) := by decide +kernel
theorem dX8_bad_40 : decode cX8_bad 40 = .ok (.bipush 6, 2) := by decide +kernel
theorem dX8_bad_42 : decode cX8_bad 42 = .ok (.iload_n 1, 1) := by decide +kernel
theorem dX8_bad_43 : decode cX8_bad 43 = .ok (.imul, 1) := by decide +kernel
theorem dX8_bad_44 : decode cX8_bad 44 = .ok (.iload_n 2, 1) := by decide +kernel
theorem dX8_bad_45 : decode cX8_bad 45 = .ok (.iadd, 1) := by decide +kernel
theorem dX8_bad_46 : decode cX8_bad 46 = .ok (.iload_n 3, 1) := by decide +kernel
theorem dX8_bad_47 : decode cX8_bad 47 = .ok (.iastore, 1) := by decide +kernel
theorem dX8_bad_48 : decode cX8_bad 48 = .ok (.iload 4, 2) := by decide +kernel
theorem dX8_bad_50 : decode cX8_bad 50 = .ok (.bipush 10, 2) := by decide +kernel
theorem dX8_bad_52 : decode cX8_bad 52 = .ok (.iadd, 1) := by decide +kernel
theorem dX8_bad_53 : decode cX8_bad 53 = .ok (.ireturn, 1) := by decide +kernel
theorem dX8_guest_0 : decode cX8_guest 0 = .ok (.iload_n 1, 1) := by decide +kernel
theorem dX8_guest_1 : decode cX8_guest 1 = .ok (.iconst 0, 1) := by decide +kernel
theorem dX8_guest_2 : decode cX8_guest 2 = .ok (.iconst 5, 1) := by decide +kernel
theorem dX8_guest_3 : decode cX8_guest 3 = .ok (.invokestatic 61, 3) := by decide +kernel
theorem dX8_guest_6 : decode cX8_guest 6 = .ok (.ifCond .ne 5, 3) := by decide +kernel
theorem dX8_guest_9 : decode cX8_guest 9 = .ok (.iconst (-1), 1) := by decide +kernel
theorem dX8_guest_10 : decode cX8_guest 10 = .ok (.ireturn, 1) := by decide +kernel
theorem dX8_guest_11 : decode cX8_guest 11 = .ok (.iload_n 2, 1) := by decide +kernel
theorem dX8_guest_12 : decode cX8_guest 12 = .ok (.iconst 0, 1) := by decide +kernel
theorem dX8_guest_13 : decode cX8_guest 13 = .ok (.bipush 63, 2) := by decide +kernel
theorem dX8_guest_15 : decode cX8_guest 15 = .ok (.invokestatic 61, 3) := by decide +kernel
theorem dX8_guest_18 : decode cX8_guest 18 = .ok (.ifCond .ne 6, 3) := by decide +kernel
theorem dX8_guest_21 : decode cX8_guest 21 = .ok (.bipush (-2), 2) := by decide +kernel
theorem dX8_guest_23 : decode cX8_guest 23 = .ok (.ireturn, 1) := by decide +kernel
theorem dX8_guest_24 : decode cX8_guest 24 = .ok (.aload_n 0, 1) := by decide +kernel
theorem dX8_guest_25 : decode cX8_guest 25 = .ok (.getfield 22, 3) := by decide +kernel
theorem dX8_guest_28 : decode cX8_guest 28 = .ok (.iload_n 1, 1) := by decide +kernel
theorem dX8_guest_29 : decode cX8_guest 29 = .ok (.iaload, 1) := by decide +kernel
theorem dX8_guest_30 : decode cX8_guest 30 = .ok (.istore_n 3, 1) := by decide +kernel
theorem dX8_guest_31 : decode cX8_guest 31 = .ok (.aload_n 0, 1) := by decide +kernel
theorem dX8_guest_32 : decode cX8_guest 32 = .ok (.getfield 22, 3) := by decide +kernel
theorem dX8_guest_35 : decode cX8_guest 35 = .ok (.iload_n 1, 1) := by decide +kernel
theorem dX8_guest_36 : decode cX8_guest 36 = .ok (.iload_n 2, 1) := by decide +kernel
theorem dX8_guest_37 : decode cX8_guest 37 = .ok (.iastore, 1) := by decide +kernel
theorem dX8_guest_38 : decode cX8_guest 38 = .ok (.iload_n 3, 1) := by decide +kernel
theorem dX8_guest_39 : decode cX8_guest 39 = .ok (.ireturn, 1) := by decide +kernel
theorem dX8_say_0 : decode cX8_say 0 = .ok (.iload_n 1, 1) := by decide +kernel
theorem dX8_say_1 : decode cX8_say 1 = .ok (.bipush 33, 2) := by decide +kernel
theorem dX8_say_3 : decode cX8_say 3 = .ok (.bipush 126, 2) := by decide +kernel
theorem dX8_say_5 : decode cX8_say 5 = .ok (.invokestatic 61, 3) := by decide +kernel
theorem dX8_say_8 : decode cX8_say 8 = .ok (.ifCond .ne 6, 3) := by decide +kernel
theorem dX8_say_11 : decode cX8_say 11 = .ok (.bipush (-2), 2) := by decide +kernel
theorem dX8_say_13 : decode cX8_say 13 = .ok (.ireturn, 1) := by decide +kernel
theorem dX8_say_14 : decode cX8_say 14 = .ok (.aload_n 0, 1) := by decide +kernel
theorem dX8_say_15 : decode cX8_say 15 = .ok (.getfield 80, 3) := by decide +kernel
theorem dX8_say_18 : decode cX8_say 18 = .ok (.bipush 60, 2) := by decide +kernel
theorem dX8_say_20 : decode cX8_say 20 = .ok (.if_icmp .ne 6, 3) := by decide +kernel
theorem dX8_say_23 : decode cX8_say 23 = .ok (.bipush (-4), 2) := by decide +kernel
theorem dX8_say_25 : decode cX8_say 25 = .ok (.ireturn, 1) := by decide +kernel
theorem dX8_say_26 : decode cX8_say 26 = .ok (.aload_n 0, 1) := by decide +kernel
theorem dX8_say_27 : decode cX8_say 27 = .ok (.getfield 28, 3) := by decide +kernel
theorem dX8_say_30 : decode cX8_say 30 = .ok (.aload_n 0, 1) := by decide +kernel
theorem dX8_say_31 : decode cX8_say 31 = .ok (.getfield 80, 3) := by decide +kernel
theorem dX8_say_34 : decode cX8_say 34 = .ok (.iload_n 1, 1) := by decide +kernel
theorem dX8_say_35 : decode cX8_say 35 = .ok (.iastore, 1) := by decide +kernel
theorem dX8_say_36 : decode cX8_say 36 = .ok (.aload_n 0, 1) := by decide +kernel
theorem dX8_say_37 : decode cX8_say 37 = .ok (.dup, 1) := by decide +kernel
theorem dX8_say_38 : decode cX8_say 38 = .ok (.getfield 80, 3) := by decide +kernel
theorem dX8_say_41 : decode cX8_say 41 = .ok (.iconst 1, 1) := by decide +kernel
theorem dX8_say_42 : decode cX8_say 42 = .ok (.iadd, 1) := by decide +kernel
theorem dX8_say_43 : decode cX8_say 43 = .ok (.putfield 80, 3) := by decide +kernel
theorem dX8_say_46 : decode cX8_say 46 = .ok (.aload_n 0, 1) := by decide +kernel
theorem dX8_say_47 : decode cX8_say 47 = .ok (.getfield 80, 3) := by decide +kernel
theorem dX8_say_50 : decode cX8_say 50 = .ok (.ireturn, 1) := by decide +kernel
theorem dX8_wipe_0 : decode cX8_wipe 0 = .ok (.aload_n 0, 1) := by decide +kernel
theorem dX8_wipe_1 : decode cX8_wipe 1 = .ok (.getfield 80, 3) := by decide +kernel
theorem dX8_wipe_4 : decode cX8_wipe 4 = .ok (.istore_n 1, 1) := by decide +kernel
theorem dX8_wipe_5 : decode cX8_wipe 5 = .ok (.aload_n 0, 1) := by decide +kernel
theorem dX8_wipe_6 : decode cX8_wipe 6 = .ok (.iconst 0, 1) := by decide +kernel
theorem dX8_wipe_7 : decode cX8_wipe 7 = .ok (.putfield 80, 3) := by decide +kernel
theorem dX8_wipe_10 : decode cX8_wipe 10 = .ok (.iload_n 1, 1) := by decide +kernel
theorem dX8_wipe_11 : decode cX8_wipe 11 = .ok (.ireturn, 1) := by decide +kernel
theorem dX8_faultOf_0 : decode cX8_faultOf 0 = .ok (.iconst 0, 1) := by decide +kernel
theorem dX8_faultOf_1 : decode cX8_faultOf 1 = .ok (.istore_n 1, 1) := by decide +kernel
theorem dX8_faultOf_2 : decode cX8_faultOf 2 = .ok (.iconst 0, 1) := by decide +kernel
theorem dX8_faultOf_3 : decode cX8_faultOf 3 = .ok (.istore_n 2, 1) := by decide +kernel
theorem dX8_faultOf_4 : decode cX8_faultOf 4 = .ok (.iload_n 2, 1) := by decide +kernel
theorem dX8_faultOf_5 : decode cX8_faultOf 5 = .ok (.aload_n 0, 1) := by decide +kernel
theorem dX8_faultOf_6 : decode cX8_faultOf 6 = .ok (.getfield 80, 3) := by decide +kernel
theorem dX8_faultOf_9 : decode cX8_faultOf 9 = .ok (.if_icmp .ge 92, 3) := by decide +kernel
theorem dX8_faultOf_12 : decode cX8_faultOf 12 = .ok (.aload_n 0, 1) := by decide +kernel
theorem dX8_faultOf_13 : decode cX8_faultOf 13 = .ok (.getfield 28, 3) := by decide +kernel
theorem dX8_faultOf_16 : decode cX8_faultOf 16 = .ok (.iload_n 2, 1) := by decide +kernel
theorem dX8_faultOf_17 : decode cX8_faultOf 17 = .ok (.iaload, 1) := by decide +kernel
theorem dX8_faultOf_18 : decode cX8_faultOf 18 = .ok (.istore_n 3, 1) := by decide +kernel
theorem dX8_faultOf_19 : decode cX8_faultOf 19 = .ok (.iload_n 1, 1) := by decide +kernel
theorem dX8_faultOf_20 : decode cX8_faultOf 20 = .ok (.ifCond .eq 28, 3) := by decide +kernel
theorem dX8_faultOf_23 : decode cX8_faultOf 23 = .ok (.iload_n 3, 1) := by decide +kernel
theorem dX8_faultOf_24 : decode cX8_faultOf 24 = .ok (.bipush 33, 2) := by decide +kernel
theorem dX8_faultOf_26 : decode cX8_faultOf 26 = .ok (.if_icmp .eq 14, 3) := by decide +kernel
theorem dX8_faultOf_29 : decode cX8_faultOf 29 = .ok (.iload_n 3, 1) := by decide +kernel
theorem dX8_faultOf_30 : decode cX8_faultOf 30 = .ok (.bipush 97, 2) := by decide +kernel
theorem dX8_faultOf_32 : decode cX8_faultOf 32 = .ok (.bipush 100, 2) := by decide +kernel
theorem dX8_faultOf_34 : decode cX8_faultOf 34 = .ok (.invokestatic 61, 3) := by decide +kernel
theorem dX8_faultOf_37 : decode cX8_faultOf 37 = .ok (.ifCond .eq 7, 3) := by decide +kernel
theorem dX8_faultOf_40 : decode cX8_faultOf 40 = .ok (.iconst 1, 1) := by decide +kernel
theorem dX8_faultOf_41 : decode cX8_faultOf 41 = .ok (.goto 29, 3) := by decide +kernel
theorem dX8_faultOf_44 : decode cX8_faultOf 44 = .ok (.iconst 0, 1) := by decide +kernel
theorem dX8_faultOf_45 : decode cX8_faultOf 45 = .ok (.goto 25, 3) := by decide +kernel
theorem dX8_faultOf_48 : decode cX8_faultOf 48 = .ok (.iload_n 3, 1) := by decide +kernel
theorem dX8_faultOf_49 : decode cX8_faultOf 49 = .ok (.bipush 65, 2) := by decide +kernel
theorem dX8_faultOf_51 : decode cX8_faultOf 51 = .ok (.bipush 70, 2) := by decide +kernel
theorem dX8_faultOf_53 : decode cX8_faultOf 53 = .ok (.invokestatic 61, 3) := by decide +kernel
theorem dX8_faultOf_56 : decode cX8_faultOf 56 = .ok (.ifCond .ne 9, 3) := by decide +kernel
theorem dX8_faultOf_59 : decode cX8_faultOf 59 = .ok (.iload_n 3, 1) := by decide +kernel
theorem dX8_faultOf_60 : decode cX8_faultOf 60 = .ok (.bipush 46, 2) := by decide +kernel
theorem dX8_faultOf_62 : decode cX8_faultOf 62 = .ok (.if_icmp .ne 7, 3) := by decide +kernel
theorem dX8_faultOf_65 : decode cX8_faultOf 65 = .ok (.iconst 1, 1) := by decide +kernel
theorem dX8_faultOf_66 : decode cX8_faultOf 66 = .ok (.goto 4, 3) := by decide +kernel
theorem dX8_faultOf_69 : decode cX8_faultOf 69 = .ok (.iconst 0, 1) := by decide +kernel
theorem dX8_faultOf_70 : decode cX8_faultOf 70 = .ok (.istore 4, 2) := by decide +kernel
theorem dX8_faultOf_72 : decode cX8_faultOf 72 = .ok (.iload 4, 2) := by decide +kernel
theorem dX8_faultOf_74 : decode cX8_faultOf 74 = .ok (.ifCond .ne 5, 3) := by decide +kernel
theorem dX8_faultOf_77 : decode cX8_faultOf 77 = .ok (.iload_n 2, 1) := by decide +kernel
theorem dX8_faultOf_78 : decode cX8_faultOf 78 = .ok (.ireturn, 1) := by decide +kernel
theorem dX8_faultOf_79 : decode cX8_faultOf 79 = .ok (.iload_n 1, 1) := by decide +kernel
theorem dX8_faultOf_80 : decode cX8_faultOf 80 = .ok (.ifCond .ne 13, 3) := by decide +kernel
theorem dX8_faultOf_83 : decode cX8_faultOf 83 = .ok (.iload_n 3, 1) := by decide +kernel
theorem dX8_faultOf_84 : decode cX8_faultOf 84 = .ok (.bipush 46, 2) := by decide +kernel
theorem dX8_faultOf_86 : decode cX8_faultOf 86 = .ok (.if_icmp .eq 7, 3) := by decide +kernel
theorem dX8_faultOf_89 : decode cX8_faultOf 89 = .ok (.iconst 1, 1) := by decide +kernel
theorem dX8_faultOf_90 : decode cX8_faultOf 90 = .ok (.goto 4, 3) := by decide +kernel
theorem dX8_faultOf_93 : decode cX8_faultOf 93 = .ok (.iconst 0, 1) := by decide +kernel
theorem dX8_faultOf_94 : decode cX8_faultOf 94 = .ok (.istore_n 1, 1) := by decide +kernel
theorem dX8_faultOf_95 : decode cX8_faultOf 95 = .ok (.iinc 2 1, 3) := by decide +kernel
theorem dX8_faultOf_98 : decode cX8_faultOf 98 = .ok (.goto (-94), 3) := by decide +kernel
theorem dX8_faultOf_101 : decode cX8_faultOf 101 = .ok (.iload_n 1, 1) := by decide +kernel
theorem dX8_faultOf_102 : decode cX8_faultOf 102 = .ok (.ifCond .eq 10, 3) := by decide +kernel
theorem dX8_faultOf_105 : decode cX8_faultOf 105 = .ok (.aload_n 0, 1) := by decide +kernel
theorem dX8_faultOf_106 : decode cX8_faultOf 106 = .ok (.getfield 80, 3) := by decide +kernel
theorem dX8_faultOf_109 : decode cX8_faultOf 109 = .ok (.goto 5, 3) := by decide +kernel
theorem dX8_faultOf_112 : decode cX8_faultOf 112 = .ok (.bipush (-6), 2) := by decide +kernel
theorem dX8_faultOf_114 : decode cX8_faultOf 114 = .ok (.ireturn, 1) := by decide +kernel
theorem dX8_fault_0 : decode cX8_fault 0 = .ok (.aload_n 0, 1) := by decide +kernel
theorem dX8_fault_1 : decode cX8_fault 1 = .ok (.invokevirtual 83, 3) := by decide +kernel
theorem dX8_fault_4 : decode cX8_fault 4 = .ok (.ireturn, 1) := by decide +kernel
theorem dX8_asNow_0 : decode cX8_asNow 0 = .ok (.iconst 0, 1) := by decide +kernel
theorem dX8_asNow_1 : decode cX8_asNow 1 = .ok (.istore_n 1, 1) := by decide +kernel
theorem dX8_asNow_2 : decode cX8_asNow 2 = .ok (.iload_n 1, 1) := by decide +kernel
theorem dX8_asNow_3 : decode cX8_asNow 3 = .ok (.bipush 26, 2) := by decide +kernel
theorem dX8_asNow_5 : decode cX8_asNow 5 = .ok (.if_icmp .ge 21, 3) := by decide +kernel
theorem dX8_asNow_8 : decode cX8_asNow 8 = .ok (.aload_n 0, 1) := by decide +kernel
theorem dX8_asNow_9 : decode cX8_asNow 9 = .ok (.getfield 13, 3) := by decide +kernel
theorem dX8_asNow_12 : decode cX8_asNow 12 = .ok (.iload_n 1, 1) := by decide +kernel
theorem dX8_asNow_13 : decode cX8_asNow 13 = .ok (.aload_n 0, 1) := by decide +kernel
theorem dX8_asNow_14 : decode cX8_asNow 14 = .ok (.getfield 7, 3) := by decide +kernel
theorem dX8_asNow_17 : decode cX8_asNow 17 = .ok (.iload_n 1, 1) := by decide +kernel
theorem dX8_asNow_18 : decode cX8_asNow 18 = .ok (.iaload, 1) := by decide +kernel
theorem dX8_asNow_19 : decode cX8_asNow 19 = .ok (.iastore, 1) := by decide +kernel
theorem dX8_asNow_20 : decode cX8_asNow 20 = .ok (.iinc 1 1, 3) := by decide +kernel
theorem dX8_asNow_23 : decode cX8_asNow 23 = .ok (.goto (-21), 3) := by decide +kernel
theorem dX8_asNow_26 : decode cX8_asNow 26 = .ok (.return_, 1) := by decide +kernel
theorem dX8_clip_0 : decode cX8_clip 0 = .ok (.iload_n 0, 1) := by decide +kernel
theorem dX8_clip_1 : decode cX8_clip 1 = .ok (.ifCond .ge 7, 3) := by decide +kernel
theorem dX8_clip_4 : decode cX8_clip 4 = .ok (.iconst 0, 1) := by decide +kernel
theorem dX8_clip_5 : decode cX8_clip 5 = .ok (.goto 15, 3) := by decide +kernel
theorem dX8_clip_8 : decode cX8_clip 8 = .ok (.iload_n 0, 1) := by decide +kernel
theorem dX8_clip_9 : decode cX8_clip 9 = .ok (.bipush 20, 2) := by decide +kernel
theorem dX8_clip_11 : decode cX8_clip 11 = .ok (.if_icmp .le 8, 3) := by decide +kernel
theorem dX8_clip_14 : decode cX8_clip 14 = .ok (.bipush 20, 2) := by decide +kernel
theorem dX8_clip_16 : decode cX8_clip 16 = .ok (.goto 4, 3) := by decide +kernel
theorem dX8_clip_19 : decode cX8_clip 19 = .ok (.iload_n 0, 1) := by decide +kernel
theorem dX8_clip_20 : decode cX8_clip 20 = .ok (.ireturn, 1) := by decide +kernel
theorem dX8_hour_0 : decode cX8_hour 0 = .ok (.iconst 0, 1) := by decide +kernel
theorem dX8_hour_1 : decode cX8_hour 1 = .ok (.istore_n 1, 1) := by decide +kernel
theorem dX8_hour_2 : decode cX8_hour 2 = .ok (.iload_n 1, 1) := by decide +kernel
theorem dX8_hour_3 : decode cX8_hour 3 = .ok (.bipush 6, 2) := by decide +kernel
theorem dX8_hour_5 : decode cX8_hour 5 = .ok (.if_icmp .ge 192, 3) := by decide +kernel
theorem dX8_hour_8 : decode cX8_hour 8 = .ok (.aload_n 0, 1) := by decide +kernel
theorem dX8_hour_9 : decode cX8_hour 9 = .ok (.getfield 13, 3) := by decide +kernel
theorem dX8_hour_12 : decode cX8_hour 12 = .ok (.bipush 18, 2) := by decide +kernel
theorem dX8_hour_14 : decode cX8_hour 14 = .ok (.iload_n 1, 1) := by decide +kernel
theorem dX8_hour_15 : decode cX8_hour 15 = .ok (.iadd, 1) := by decide +kernel
theorem dX8_hour_16 : decode cX8_hour 16 = .ok (.iaload, 1) := by decide +kernel
theorem dX8_hour_17 : decode cX8_hour 17 = .ok (.istore_n 2, 1) := by decide +kernel
theorem dX8_hour_18 : decode cX8_hour 18 = .ok (.iconst 0, 1) := by decide +kernel
theorem dX8_hour_19 : decode cX8_hour 19 = .ok (.istore_n 3, 1) := by decide +kernel
theorem dX8_hour_20 : decode cX8_hour 20 = .ok (.iconst 0, 1) := by decide +kernel
theorem dX8_hour_21 : decode cX8_hour 21 = .ok (.istore 4, 2) := by decide +kernel
theorem dX8_hour_23 : decode cX8_hour 23 = .ok (.iload 4, 2) := by decide +kernel
theorem dX8_hour_25 : decode cX8_hour 25 = .ok (.bipush 6, 2) := by decide +kernel
theorem dX8_hour_27 : decode cX8_hour 27 = .ok (.if_icmp .ge 60, 3) := by decide +kernel
theorem dX8_hour_30 : decode cX8_hour 30 = .ok (.iload_n 3, 1) := by decide +kernel
theorem dX8_hour_31 : decode cX8_hour 31 = .ok (.iload 4, 2) := by decide +kernel
theorem dX8_hour_33 : decode cX8_hour 33 = .ok (.iload_n 1, 1) := by decide +kernel
theorem dX8_hour_34 : decode cX8_hour 34 = .ok (.if_icmp .eq 44, 3) := by decide +kernel
theorem dX8_hour_37 : decode cX8_hour 37 = .ok (.aload_n 0, 1) := by decide +kernel
theorem dX8_hour_38 : decode cX8_hour 38 = .ok (.getfield 57, 3) := by decide +kernel
theorem dX8_hour_41 : decode cX8_hour 41 = .ok (.iload 4, 2) := by decide +kernel
theorem dX8_hour_43 : decode cX8_hour 43 = .ok (.invokestatic 65, 3) := by decide +kernel
theorem dX8_hour_46 : decode cX8_hour 46 = .ok (.ifCond .eq 32, 3) := by decide +kernel
theorem dX8_hour_49 : decode cX8_hour 49 = .ok (.aload_n 0, 1) := by decide +kernel
theorem dX8_hour_50 : decode cX8_hour 50 = .ok (.getfield 13, 3) := by decide +kernel
theorem dX8_hour_53 : decode cX8_hour 53 = .ok (.bipush 18, 2) := by decide +kernel
theorem dX8_hour_55 : decode cX8_hour 55 = .ok (.iload 4, 2) := by decide +kernel
theorem dX8_hour_57 : decode cX8_hour 57 = .ok (.iadd, 1) := by decide +kernel
theorem dX8_hour_58 : decode cX8_hour 58 = .ok (.iaload, 1) := by decide +kernel
theorem dX8_hour_59 : decode cX8_hour 59 = .ok (.iload_n 2, 1) := by decide +kernel
theorem dX8_hour_60 : decode cX8_hour 60 = .ok (.if_icmp .ne 18, 3) := by decide +kernel
theorem dX8_hour_63 : decode cX8_hour 63 = .ok (.aload_n 0, 1) := by decide +kernel
theorem dX8_hour_64 : decode cX8_hour 64 = .ok (.getfield 19, 3) := by decide +kernel
theorem dX8_hour_67 : decode cX8_hour 67 = .ok (.bipush 6, 2) := by decide +kernel
theorem dX8_hour_69 : decode cX8_hour 69 = .ok (.iload 4, 2) := by decide +kernel
theorem dX8_hour_71 : decode cX8_hour 71 = .ok (.imul, 1) := by decide +kernel
theorem dX8_hour_72 : decode cX8_hour 72 = .ok (.iload_n 1, 1) := by decide +kernel
theorem dX8_hour_73 : decode cX8_hour 73 = .ok (.iadd, 1) := by decide +kernel
theorem dX8_hour_74 : decode cX8_hour 74 = .ok (.iaload, 1) := by decide +kernel
theorem dX8_hour_75 : decode cX8_hour 75 = .ok (.goto 4, 3) := by decide +kernel
theorem dX8_hour_78 : decode cX8_hour 78 = .ok (.iconst 0, 1) := by decide +kernel
theorem dX8_hour_79 : decode cX8_hour 79 = .ok (.iadd, 1) := by decide +kernel
theorem dX8_hour_80 : decode cX8_hour 80 = .ok (.istore_n 3, 1) := by decide +kernel
theorem dX8_hour_81 : decode cX8_hour 81 = .ok (.iinc 4 1, 3) := by decide +kernel
theorem dX8_hour_84 : decode cX8_hour 84 = .ok (.goto (-61), 3) := by decide +kernel
theorem dX8_hour_87 : decode cX8_hour 87 = .ok (.iconst 0, 1) := by decide +kernel
theorem dX8_hour_88 : decode cX8_hour 88 = .ok (.istore 4, 2) := by decide +kernel
theorem dX8_hour_90 : decode cX8_hour 90 = .ok (.iload 4, 2) := by decide +kernel
theorem dX8_hour_92 : decode cX8_hour 92 = .ok (.iconst 3, 1) := by decide +kernel
theorem dX8_hour_93 : decode cX8_hour 93 = .ok (.if_icmp .ge 98, 3) := by decide +kernel
theorem dX8_hour_96 : decode cX8_hour 96 = .ok (.aload_n 0, 1) := by decide +kernel
theorem dX8_hour_97 : decode cX8_hour 97 = .ok (.getfield 13, 3) := by decide +kernel
theorem dX8_hour_100 : decode cX8_hour 100 = .ok (.iconst 3, 1) := by decide +kernel
theorem dX8_hour_101 : decode cX8_hour 101 = .ok (.iload_n 1, 1) := by decide +kernel
theorem dX8_hour_102 : decode cX8_hour 102 = .ok (.imul, 1) := by decide +kernel
theorem dX8_hour_103 : decode cX8_hour 103 = .ok (.iload 4, 2) := by decide +kernel
theorem dX8_hour_105 : decode cX8_hour 105 = .ok (.iadd, 1) := by decide +kernel
theorem dX8_hour_106 : decode cX8_hour 106 = .ok (.iaload, 1) := by decide +kernel
theorem dX8_hour_107 : decode cX8_hour 107 = .ok (.aload_n 0, 1) := by decide +kernel
theorem dX8_hour_108 : decode cX8_hour 108 = .ok (.getfield 16, 3) := by decide +kernel
theorem dX8_hour_111 : decode cX8_hour 111 = .ok (.iconst 3, 1) := by decide +kernel
theorem dX8_hour_112 : decode cX8_hour 112 = .ok (.iload_n 2, 1) := by decide +kernel
theorem dX8_hour_113 : decode cX8_hour 113 = .ok (.imul, 1) := by decide +kernel
theorem dX8_hour_114 : decode cX8_hour 114 = .ok (.iload 4, 2) := by decide +kernel
theorem dX8_hour_116 : decode cX8_hour 116 = .ok (.iadd, 1) := by decide +kernel
theorem dX8_hour_117 : decode cX8_hour 117 = .ok (.iaload, 1) := by decide +kernel
theorem dX8_hour_118 : decode cX8_hour 118 = .ok (.iadd, 1) := by decide +kernel
theorem dX8_hour_119 : decode cX8_hour 119 = .ok (.iload 4, 2) := by decide +kernel
theorem dX8_hour_121 : decode cX8_hour 121 = .ok (.iconst 1, 1) := by decide +kernel
theorem dX8_hour_122 : decode cX8_hour 122 = .ok (.if_icmp .ne 7, 3) := by decide +kernel
theorem dX8_hour_125 : decode cX8_hour 125 = .ok (.iload_n 3, 1) := by decide +kernel
theorem dX8_hour_126 : decode cX8_hour 126 = .ok (.goto 4, 3) := by decide +kernel
theorem dX8_hour_129 : decode cX8_hour 129 = .ok (.iconst 0, 1) := by decide +kernel
theorem dX8_hour_130 : decode cX8_hour 130 = .ok (.iadd, 1) := by decide +kernel
theorem dX8_hour_131 : decode cX8_hour 131 = .ok (.invokestatic 87, 3) := by decide +kernel
theorem dX8_hour_134 : decode cX8_hour 134 = .ok (.istore 5, 2) := by decide +kernel
theorem dX8_hour_136 : decode cX8_hour 136 = .ok (.aload_n 0, 1) := by decide +kernel
theorem dX8_hour_137 : decode cX8_hour 137 = .ok (.getfield 31, 3) := by decide +kernel
theorem dX8_hour_140 : decode cX8_hour 140 = .ok (.iconst 3, 1) := by decide +kernel
theorem dX8_hour_141 : decode cX8_hour 141 = .ok (.iload_n 1, 1) := by decide +kernel
theorem dX8_hour_142 : decode cX8_hour 142 = .ok (.imul, 1) := by decide +kernel
theorem dX8_hour_143 : decode cX8_hour 143 = .ok (.iload 4, 2) := by decide +kernel
theorem dX8_hour_145 : decode cX8_hour 145 = .ok (.iadd, 1) := by decide +kernel
theorem dX8_hour_146 : decode cX8_hour 146 = .ok (.iload 4, 2) := by decide +kernel
theorem dX8_hour_148 : decode cX8_hour 148 = .ok (.ifCond .ne 34, 3) := by decide +kernel
theorem dX8_hour_151 : decode cX8_hour 151 = .ok (.aload_n 0, 1) := by decide +kernel
theorem dX8_hour_152 : decode cX8_hour 152 = .ok (.getfield 13, 3) := by decide +kernel
theorem dX8_hour_155 : decode cX8_hour 155 = .ok (.bipush 24, 2) := by decide +kernel
theorem dX8_hour_157 : decode cX8_hour 157 = .ok (.iaload, 1) := by decide +kernel
theorem dX8_hour_158 : decode cX8_hour 158 = .ok (.iload_n 1, 1) := by decide +kernel
theorem dX8_hour_159 : decode cX8_hour 159 = .ok (.invokestatic 65, 3) := by decide +kernel
theorem dX8_hour_162 : decode cX8_hour 162 = .ok (.ifCond .eq 20, 3) := by decide +kernel
theorem dX8_hour_165 : decode cX8_hour 165 = .ok (.iload 5, 2) := by decide +kernel
theorem dX8_hour_167 : decode cX8_hour 167 = .ok (.iconst 2, 1) := by decide +kernel
theorem dX8_hour_168 : decode cX8_hour 168 = .ok (.if_icmp .ge 7, 3) := by decide +kernel
theorem dX8_hour_171 : decode cX8_hour 171 = .ok (.iconst 0, 1) := by decide +kernel
theorem dX8_hour_172 : decode cX8_hour 172 = .ok (.goto 12, 3) := by decide +kernel
theorem dX8_hour_175 : decode cX8_hour 175 = .ok (.iload 5, 2) := by decide +kernel
theorem dX8_hour_177 : decode cX8_hour 177 = .ok (.iconst 2, 1) := by decide +kernel
theorem dX8_hour_178 : decode cX8_hour 178 = .ok (.isub, 1) := by decide +kernel
theorem dX8_hour_179 : decode cX8_hour 179 = .ok (.goto 5, 3) := by decide +kernel
theorem dX8_hour_182 : decode cX8_hour 182 = .ok (.iload 5, 2) := by decide +kernel
theorem dX8_hour_184 : decode cX8_hour 184 = .ok (.iastore, 1) := by decide +kernel
theorem dX8_hour_185 : decode cX8_hour 185 = .ok (.iinc 4 1, 3) := by decide +kernel
theorem dX8_hour_188 : decode cX8_hour 188 = .ok (.goto (-98), 3) := by decide +kernel
theorem dX8_hour_191 : decode cX8_hour 191 = .ok (.iinc 1 1, 3) := by decide +kernel
theorem dX8_hour_194 : decode cX8_hour 194 = .ok (.goto (-192), 3) := by decide +kernel
theorem dX8_hour_197 : decode cX8_hour 197 = .ok (.iconst 0, 1) := by decide +kernel
theorem dX8_hour_198 : decode cX8_hour 198 = .ok (.istore_n 1, 1) := by decide +kernel
theorem dX8_hour_199 : decode cX8_hour 199 = .ok (.iload_n 1, 1) := by decide +kernel
theorem dX8_hour_200 : decode cX8_hour 200 = .ok (.bipush 18, 2) := by decide +kernel
theorem dX8_hour_202 : decode cX8_hour 202 = .ok (.if_icmp .ge 43, 3) := by decide +kernel
theorem dX8_hour_205 : decode cX8_hour 205 = .ok (.aload_n 0, 1) := by decide +kernel
theorem dX8_hour_206 : decode cX8_hour 206 = .ok (.getfield 13, 3) := by decide +kernel
theorem dX8_hour_209 : decode cX8_hour 209 = .ok (.iload_n 1, 1) := by decide +kernel
theorem dX8_hour_210 : decode cX8_hour 210 = .ok (.aload_n 0, 1) := by decide +kernel
theorem dX8_hour_211 : decode cX8_hour 211 = .ok (.getfield 57, 3) := by decide +kernel
theorem dX8_hour_214 : decode cX8_hour 214 = .ok (.iload_n 1, 1) := by decide +kernel
theorem dX8_hour_215 : decode cX8_hour 215 = .ok (.iconst 3, 1) := by decide +kernel
theorem dX8_hour_216 : decode cX8_hour 216 = .ok (.idiv, 1) := by decide +kernel
theorem dX8_hour_217 : decode cX8_hour 217 = .ok (.invokestatic 65, 3) := by decide +kernel
theorem dX8_hour_220 : decode cX8_hour 220 = .ok (.ifCond .eq 12, 3) := by decide +kernel
theorem dX8_hour_223 : decode cX8_hour 223 = .ok (.aload_n 0, 1) := by decide +kernel
theorem dX8_hour_224 : decode cX8_hour 224 = .ok (.getfield 31, 3) := by decide +kernel
theorem dX8_hour_227 : decode cX8_hour 227 = .ok (.iload_n 1, 1) := by decide +kernel
theorem dX8_hour_228 : decode cX8_hour 228 = .ok (.iaload, 1) := by decide +kernel
theorem dX8_hour_229 : decode cX8_hour 229 = .ok (.goto 9, 3) := by decide +kernel
theorem dX8_hour_232 : decode cX8_hour 232 = .ok (.aload_n 0, 1) := by decide +kernel
theorem dX8_hour_233 : decode cX8_hour 233 = .ok (.getfield 13, 3) := by decide +kernel
theorem dX8_hour_236 : decode cX8_hour 236 = .ok (.iload_n 1, 1) := by decide +kernel
theorem dX8_hour_237 : decode cX8_hour 237 = .ok (.iaload, 1) := by decide +kernel
theorem dX8_hour_238 : decode cX8_hour 238 = .ok (.iastore, 1) := by decide +kernel
theorem dX8_hour_239 : decode cX8_hour 239 = .ok (.iinc 1 1, 3) := by decide +kernel
theorem dX8_hour_242 : decode cX8_hour 242 = .ok (.goto (-43), 3) := by decide +kernel
theorem dX8_hour_245 : decode cX8_hour 245 = .ok (.aload_n 0, 1) := by decide +kernel
theorem dX8_hour_246 : decode cX8_hour 246 = .ok (.getfield 13, 3) := by decide +kernel
theorem dX8_hour_249 : decode cX8_hour 249 = .ok (.bipush 24, 2) := by decide +kernel
theorem dX8_hour_251 : decode cX8_hour 251 = .ok (.iconst 0, 1) := by decide +kernel
theorem dX8_hour_252 : decode cX8_hour 252 = .ok (.iastore, 1) := by decide +kernel
theorem dX8_hour_253 : decode cX8_hour 253 = .ok (.return_, 1) := by decide +kernel
theorem dX8_illsOf_0 : decode cX8_illsOf 0 = .ok (.aload_n 0, 1) := by decide +kernel
theorem dX8_illsOf_1 : decode cX8_illsOf 1 = .ok (.getfield 13, 3) := by decide +kernel
theorem dX8_illsOf_4 : decode cX8_illsOf 4 = .ok (.iconst 3, 1) := by decide +kernel
theorem dX8_illsOf_5 : decode cX8_illsOf 5 = .ok (.iload_n 1, 1) := by decide +kernel
theorem dX8_illsOf_6 : decode cX8_illsOf 6 = .ok (.imul, 1) := by decide +kernel
theorem dX8_illsOf_7 : decode cX8_illsOf 7 = .ok (.iaload, 1) := by decide +kernel
theorem dX8_illsOf_8 : decode cX8_illsOf 8 = .ok (.aload_n 0, 1) := by decide +kernel
theorem dX8_illsOf_9 : decode cX8_illsOf 9 = .ok (.getfield 13, 3) := by decide +kernel
theorem dX8_illsOf_12 : decode cX8_illsOf 12 = .ok (.iconst 3, 1) := by decide +kernel
theorem dX8_illsOf_13 : decode cX8_illsOf 13 = .ok (.iload_n 1, 1) := by decide +kernel
theorem dX8_illsOf_14 : decode cX8_illsOf 14 = .ok (.imul, 1) := by decide +kernel
theorem dX8_illsOf_15 : decode cX8_illsOf 15 = .ok (.iconst 1, 1) := by decide +kernel
theorem dX8_illsOf_16 : decode cX8_illsOf 16 = .ok (.iadd, 1) := by decide +kernel
theorem dX8_illsOf_17 : decode cX8_illsOf 17 = .ok (.iaload, 1) := by decide +kernel
theorem dX8_illsOf_18 : decode cX8_illsOf 18 = .ok (.iadd, 1) := by decide +kernel
theorem dX8_illsOf_19 : decode cX8_illsOf 19 = .ok (.aload_n 0, 1) := by decide +kernel
theorem dX8_illsOf_20 : decode cX8_illsOf 20 = .ok (.getfield 13, 3) := by decide +kernel
theorem dX8_illsOf_23 : decode cX8_illsOf 23 = .ok (.iconst 3, 1) := by decide +kernel
theorem dX8_illsOf_24 : decode cX8_illsOf 24 = .ok (.iload_n 1, 1) := by decide +kernel
theorem dX8_illsOf_25 : decode cX8_illsOf 25 = .ok (.imul, 1) := by decide +kernel
theorem dX8_illsOf_26 : decode cX8_illsOf 26 = .ok (.iconst 2, 1) := by decide +kernel
theorem dX8_illsOf_27 : decode cX8_illsOf 27 = .ok (.iadd, 1) := by decide +kernel
theorem dX8_illsOf_28 : decode cX8_illsOf 28 = .ok (.iaload, 1) := by decide +kernel
theorem dX8_illsOf_29 : decode cX8_illsOf 29 = .ok (.iadd, 1) := by decide +kernel
theorem dX8_illsOf_30 : decode cX8_illsOf 30 = .ok (.ireturn, 1) := by decide +kernel
theorem dX8_sit_0 : decode cX8_sit 0 = .ok (.aload_n 0, 1) := by decide +kernel
theorem dX8_sit_1 : decode cX8_sit 1 = .ok (.iload_n 1, 1) := by decide +kernel
theorem dX8_sit_2 : decode cX8_sit 2 = .ok (.invokevirtual 73, 3) := by decide +kernel
theorem dX8_sit_5 : decode cX8_sit 5 = .ok (.ifCond .ne 5, 3) := by decide +kernel
theorem dX8_sit_8 : decode cX8_sit 8 = .ok (.iconst 1, 1) := by decide +kernel
theorem dX8_sit_9 : decode cX8_sit 9 = .ok (.ireturn, 1) := by decide +kernel
theorem dX8_sit_10 : decode cX8_sit 10 = .ok (.aload_n 0, 1) := by decide +kernel
theorem dX8_sit_11 : decode cX8_sit 11 = .ok (.getfield 13, 3) := by decide +kernel
theorem dX8_sit_14 : decode cX8_sit 14 = .ok (.bipush 24, 2) := by decide +kernel
theorem dX8_sit_16 : decode cX8_sit 16 = .ok (.iaload, 1) := by decide +kernel
theorem dX8_sit_17 : decode cX8_sit 17 = .ok (.iload_n 1, 1) := by decide +kernel
theorem dX8_sit_18 : decode cX8_sit 18 = .ok (.invokestatic 65, 3) := by decide +kernel
theorem dX8_sit_21 : decode cX8_sit 21 = .ok (.ifCond .eq 5, 3) := by decide +kernel
theorem dX8_sit_24 : decode cX8_sit 24 = .ok (.iconst 3, 1) := by decide +kernel
theorem dX8_sit_25 : decode cX8_sit 25 = .ok (.ireturn, 1) := by decide +kernel
theorem dX8_sit_26 : decode cX8_sit 26 = .ok (.aload_n 0, 1) := by decide +kernel
theorem dX8_sit_27 : decode cX8_sit 27 = .ok (.getfield 13, 3) := by decide +kernel
theorem dX8_sit_30 : decode cX8_sit 30 = .ok (.bipush 24, 2) := by decide +kernel
theorem dX8_sit_32 : decode cX8_sit 32 = .ok (.dup2, 1) := by decide +kernel
theorem dX8_sit_33 : decode cX8_sit 33 = .ok (.iaload, 1) := by decide +kernel
theorem dX8_sit_34 : decode cX8_sit 34 = .ok (.iconst 1, 1) := by decide +kernel
theorem dX8_sit_35 : decode cX8_sit 35 = .ok (.iload_n 1, 1) := by decide +kernel
theorem dX8_sit_36 : decode cX8_sit 36 = .ok (.ishl, 1) := by decide +kernel
theorem dX8_sit_37 : decode cX8_sit 37 = .ok (.ior, 1) := by decide +kernel
theorem dX8_sit_38 : decode cX8_sit 38 = .ok (.iastore, 1) := by decide +kernel
theorem dX8_sit_39 : decode cX8_sit 39 = .ok (.iconst 0, 1) := by decide +kernel
theorem dX8_sit_40 : decode cX8_sit 40 = .ok (.ireturn, 1) := by decide +kernel
theorem dX8_walk_0 : decode cX8_walk 0 = .ok (.aload_n 0, 1) := by decide +kernel
theorem dX8_walk_1 : decode cX8_walk 1 = .ok (.iload_n 1, 1) := by decide +kernel
theorem dX8_walk_2 : decode cX8_walk 2 = .ok (.invokevirtual 73, 3) := by decide +kernel
theorem dX8_walk_5 : decode cX8_walk 5 = .ok (.ifCond .ne 5, 3) := by decide +kernel
theorem dX8_walk_8 : decode cX8_walk 8 = .ok (.iconst 1, 1) := by decide +kernel
theorem dX8_walk_9 : decode cX8_walk 9 = .ok (.ireturn, 1) := by decide +kernel
theorem dX8_walk_10 : decode cX8_walk 10 = .ok (.aload_n 0, 1) := by decide +kernel
theorem dX8_walk_11 : decode cX8_walk 11 = .ok (.getfield 13, 3) := by decide +kernel
theorem dX8_walk_14 : decode cX8_walk 14 = .ok (.bipush 18, 2) := by decide +kernel
theorem dX8_walk_16 : decode cX8_walk 16 = .ok (.iload_n 1, 1) := by decide +kernel
theorem dX8_walk_17 : decode cX8_walk 17 = .ok (.iadd, 1) := by decide +kernel
theorem dX8_walk_18 : decode cX8_walk 18 = .ok (.iaload, 1) := by decide +kernel
theorem dX8_walk_19 : decode cX8_walk 19 = .ok (.iload_n 2, 1) := by decide +kernel
theorem dX8_walk_20 : decode cX8_walk 20 = .ok (.if_icmp .ne 5, 3) := by decide +kernel
theorem dX8_walk_23 : decode cX8_walk 23 = .ok (.iconst 2, 1) := by decide +kernel
theorem dX8_walk_24 : decode cX8_walk 24 = .ok (.ireturn, 1) := by decide +kernel
theorem dX8_walk_25 : decode cX8_walk 25 = .ok (.aload_n 0, 1) := by decide +kernel
theorem dX8_walk_26 : decode cX8_walk 26 = .ok (.getfield 13, 3) := by decide +kernel
theorem dX8_walk_29 : decode cX8_walk 29 = .ok (.bipush 24, 2) := by decide +kernel
theorem dX8_walk_31 : decode cX8_walk 31 = .ok (.iaload, 1) := by decide +kernel
theorem dX8_walk_32 : decode cX8_walk 32 = .ok (.iload_n 1, 1) := by decide +kernel
theorem dX8_walk_33 : decode cX8_walk 33 = .ok (.invokestatic 65, 3) := by decide +kernel
theorem dX8_walk_36 : decode cX8_walk 36 = .ok (.ifCond .eq 5, 3) := by decide +kernel
theorem dX8_walk_39 : decode cX8_walk 39 = .ok (.iconst 3, 1) := by decide +kernel
theorem dX8_walk_40 : decode cX8_walk 40 = .ok (.ireturn, 1) := by decide +kernel
theorem dX8_walk_41 : decode cX8_walk 41 = .ok (.aload_n 0, 1) := by decide +kernel
theorem dX8_walk_42 : decode cX8_walk 42 = .ok (.getfield 13, 3) := by decide +kernel
theorem dX8_walk_45 : decode cX8_walk 45 = .ok (.bipush 18, 2) := by decide +kernel
theorem dX8_walk_47 : decode cX8_walk 47 = .ok (.iload_n 1, 1) := by decide +kernel
theorem dX8_walk_48 : decode cX8_walk 48 = .ok (.iadd, 1) := by decide +kernel
theorem dX8_walk_49 : decode cX8_walk 49 = .ok (.iload_n 2, 1) := by decide +kernel
theorem dX8_walk_50 : decode cX8_walk 50 = .ok (.iastore, 1) := by decide +kernel
theorem dX8_walk_51 : decode cX8_walk 51 = .ok (.iconst 0, 1) := by decide +kernel
theorem dX8_walk_52 : decode cX8_walk 52 = .ok (.ireturn, 1) := by decide +kernel
theorem dX8_pass_0 : decode cX8_pass 0 = .ok (.aload_n 0, 1) := by decide +kernel
theorem dX8_pass_1 : decode cX8_pass 1 = .ok (.getfield 13, 3) := by decide +kernel
theorem dX8_pass_4 : decode cX8_pass 4 = .ok (.bipush 25, 2) := by decide +kernel
theorem dX8_pass_6 : decode cX8_pass 6 = .ok (.iaload, 1) := by decide +kernel
theorem dX8_pass_7 : decode cX8_pass 7 = .ok (.bipush 99, 2) := by decide +kernel
theorem dX8_pass_9 : decode cX8_pass 9 = .ok (.if_icmp .ne 5, 3) := by decide +kernel
theorem dX8_pass_12 : decode cX8_pass 12 = .ok (.iconst 4, 1) := by decide +kernel
theorem dX8_pass_13 : decode cX8_pass 13 = .ok (.ireturn, 1) := by decide +kernel
theorem dX8_pass_14 : decode cX8_pass 14 = .ok (.iconst 0, 1) := by decide +kernel
theorem dX8_pass_15 : decode cX8_pass 15 = .ok (.istore_n 1, 1) := by decide +kernel
theorem dX8_pass_16 : decode cX8_pass 16 = .ok (.iload_n 1, 1) := by decide +kernel
theorem dX8_pass_17 : decode cX8_pass 17 = .ok (.bipush 6, 2) := by decide +kernel
theorem dX8_pass_19 : decode cX8_pass 19 = .ok (.if_icmp .ge 20, 3) := by decide +kernel
theorem dX8_pass_22 : decode cX8_pass 22 = .ok (.aload_n 0, 1) := by decide +kernel
theorem dX8_pass_23 : decode cX8_pass 23 = .ok (.getfield 34, 3) := by decide +kernel
theorem dX8_pass_26 : decode cX8_pass 26 = .ok (.iload_n 1, 1) := by decide +kernel
theorem dX8_pass_27 : decode cX8_pass 27 = .ok (.aload_n 0, 1) := by decide +kernel
theorem dX8_pass_28 : decode cX8_pass 28 = .ok (.iload_n 1, 1) := by decide +kernel
theorem dX8_pass_29 : decode cX8_pass 29 = .ok (.invokevirtual 90, 3) := by decide +kernel
theorem dX8_pass_32 : decode cX8_pass 32 = .ok (.iastore, 1) := by decide +kernel
theorem dX8_pass_33 : decode cX8_pass 33 = .ok (.iinc 1 1, 3) := by decide +kernel
theorem dX8_pass_36 : decode cX8_pass 36 = .ok (.goto (-20), 3) := by decide +kernel
theorem dX8_pass_39 : decode cX8_pass 39 = .ok (.aload_n 0, 1) := by decide +kernel
theorem dX8_pass_40 : decode cX8_pass 40 = .ok (.invokevirtual 93, 3) := by decide +kernel
theorem dX8_pass_43 : decode cX8_pass 43 = .ok (.iconst 5, 1) := by decide +kernel
theorem dX8_pass_44 : decode cX8_pass 44 = .ok (.istore_n 1, 1) := by decide +kernel
theorem dX8_pass_45 : decode cX8_pass 45 = .ok (.iload_n 1, 1) := by decide +kernel
theorem dX8_pass_46 : decode cX8_pass 46 = .ok (.ifCond .lt 65, 3) := by decide +kernel
theorem dX8_pass_49 : decode cX8_pass 49 = .ok (.aload_n 0, 1) := by decide +kernel
theorem dX8_pass_50 : decode cX8_pass 50 = .ok (.getfield 96, 3) := by decide +kernel
theorem dX8_pass_53 : decode cX8_pass 53 = .ok (.ifCond .lt 14, 3) := by decide +kernel
theorem dX8_pass_56 : decode cX8_pass 56 = .ok (.aload_n 0, 1) := by decide +kernel
theorem dX8_pass_57 : decode cX8_pass 57 = .ok (.getfield 96, 3) := by decide +kernel
theorem dX8_pass_60 : decode cX8_pass 60 = .ok (.aload_n 0, 1) := by decide +kernel
theorem dX8_pass_61 : decode cX8_pass 61 = .ok (.getfield 99, 3) := by decide +kernel
theorem dX8_pass_64 : decode cX8_pass 64 = .ok (.if_icmp .ne 47, 3) := by decide +kernel
theorem dX8_pass_67 : decode cX8_pass 67 = .ok (.aload_n 0, 1) := by decide +kernel
theorem dX8_pass_68 : decode cX8_pass 68 = .ok (.getfield 57, 3) := by decide +kernel
theorem dX8_pass_71 : decode cX8_pass 71 = .ok (.iload_n 1, 1) := by decide +kernel
theorem dX8_pass_72 : decode cX8_pass 72 = .ok (.invokestatic 65, 3) := by decide +kernel
theorem dX8_pass_75 : decode cX8_pass 75 = .ok (.ifCond .eq 30, 3) := by decide +kernel
theorem dX8_pass_78 : decode cX8_pass 78 = .ok (.aload_n 0, 1) := by decide +kernel
theorem dX8_pass_79 : decode cX8_pass 79 = .ok (.iload_n 1, 1) := by decide +kernel
theorem dX8_pass_80 : decode cX8_pass 80 = .ok (.invokevirtual 90, 3) := by decide +kernel
theorem dX8_pass_83 : decode cX8_pass 83 = .ok (.aload_n 0, 1) := by decide +kernel
theorem dX8_pass_84 : decode cX8_pass 84 = .ok (.getfield 34, 3) := by decide +kernel
theorem dX8_pass_87 : decode cX8_pass 87 = .ok (.iload_n 1, 1) := by decide +kernel
theorem dX8_pass_88 : decode cX8_pass 88 = .ok (.iaload, 1) := by decide +kernel
theorem dX8_pass_89 : decode cX8_pass 89 = .ok (.if_icmp .le 16, 3) := by decide +kernel
theorem dX8_pass_92 : decode cX8_pass 92 = .ok (.aload_n 0, 1) := by decide +kernel
theorem dX8_pass_93 : decode cX8_pass 93 = .ok (.aload_n 0, 1) := by decide +kernel
theorem dX8_pass_94 : decode cX8_pass 94 = .ok (.getfield 99, 3) := by decide +kernel
theorem dX8_pass_97 : decode cX8_pass 97 = .ok (.putfield 96, 3) := by decide +kernel
theorem dX8_pass_100 : decode cX8_pass 100 = .ok (.aload_n 0, 1) := by decide +kernel
theorem dX8_pass_101 : decode cX8_pass 101 = .ok (.iload_n 1, 1) := by decide +kernel
theorem dX8_pass_102 : decode cX8_pass 102 = .ok (.putfield 102, 3) := by decide +kernel
theorem dX8_pass_105 : decode cX8_pass 105 = .ok (.iinc 1 (-1), 3) := by decide +kernel
theorem dX8_pass_108 : decode cX8_pass 108 = .ok (.goto (-63), 3) := by decide +kernel
theorem dX8_pass_111 : decode cX8_pass 111 = .ok (.aload_n 0, 1) := by decide +kernel
theorem dX8_pass_112 : decode cX8_pass 112 = .ok (.getfield 13, 3) := by decide +kernel
theorem dX8_pass_115 : decode cX8_pass 115 = .ok (.bipush 25, 2) := by decide +kernel
theorem dX8_pass_117 : decode cX8_pass 117 = .ok (.dup2, 1) := by decide +kernel
theorem dX8_pass_118 : decode cX8_pass 118 = .ok (.iaload, 1) := by decide +kernel
theorem dX8_pass_119 : decode cX8_pass 119 = .ok (.iconst 1, 1) := by decide +kernel
theorem dX8_pass_120 : decode cX8_pass 120 = .ok (.iadd, 1) := by decide +kernel
theorem dX8_pass_121 : decode cX8_pass 121 = .ok (.iastore, 1) := by decide +kernel
theorem dX8_pass_122 : decode cX8_pass 122 = .ok (.aload_n 0, 1) := by decide +kernel
theorem dX8_pass_123 : decode cX8_pass 123 = .ok (.dup, 1) := by decide +kernel
theorem dX8_pass_124 : decode cX8_pass 124 = .ok (.getfield 99, 3) := by decide +kernel
theorem dX8_pass_127 : decode cX8_pass 127 = .ok (.iconst 1, 1) := by decide +kernel
theorem dX8_pass_128 : decode cX8_pass 128 = .ok (.iadd, 1) := by decide +kernel
theorem dX8_pass_129 : decode cX8_pass 129 = .ok (.putfield 99, 3) := by decide +kernel
theorem dX8_pass_132 : decode cX8_pass 132 = .ok (.iconst 0, 1) := by decide +kernel
theorem dX8_pass_133 : decode cX8_pass 133 = .ok (.ireturn, 1) := by decide +kernel
theorem dX8_begin_0 : decode cX8_begin 0 = .ok (.aload_n 0, 1) := by decide +kernel
theorem dX8_begin_1 : decode cX8_begin 1 = .ok (.invokevirtual 105, 3) := by decide +kernel
theorem dX8_begin_4 : decode cX8_begin 4 = .ok (.aload_n 0, 1) := by decide +kernel
theorem dX8_begin_5 : decode cX8_begin 5 = .ok (.bipush (-6), 2) := by decide +kernel
theorem dX8_begin_7 : decode cX8_begin 7 = .ok (.putfield 96, 3) := by decide +kernel
theorem dX8_begin_10 : decode cX8_begin 10 = .ok (.aload_n 0, 1) := by decide +kernel
theorem dX8_begin_11 : decode cX8_begin 11 = .ok (.bipush (-6), 2) := by decide +kernel
theorem dX8_begin_13 : decode cX8_begin 13 = .ok (.putfield 102, 3) := by decide +kernel
theorem dX8_begin_16 : decode cX8_begin 16 = .ok (.aload_n 0, 1) := by decide +kernel
theorem dX8_begin_17 : decode cX8_begin 17 = .ok (.iconst 0, 1) := by decide +kernel
theorem dX8_begin_18 : decode cX8_begin 18 = .ok (.putfield 99, 3) := by decide +kernel
theorem dX8_begin_21 : decode cX8_begin 21 = .ok (.return_, 1) := by decide +kernel
theorem dX8_goCures_0 : decode cX8_goCures 0 = .ok (.aload_n 0, 1) := by decide +kernel
theorem dX8_goCures_1 : decode cX8_goCures 1 = .ok (.invokevirtual 108, 3) := by decide +kernel
theorem dX8_goCures_4 : decode cX8_goCures 4 = .ok (.aload_n 0, 1) := by decide +kernel
theorem dX8_goCures_5 : decode cX8_goCures 5 = .ok (.iconst 0, 1) := by decide +kernel
theorem dX8_goCures_6 : decode cX8_goCures 6 = .ok (.putfield 111, 3) := by decide +kernel
theorem dX8_goCures_9 : decode cX8_goCures 9 = .ok (.iconst 0, 1) := by decide +kernel
theorem dX8_goCures_10 : decode cX8_goCures 10 = .ok (.istore_n 1, 1) := by decide +kernel
theorem dX8_goCures_11 : decode cX8_goCures 11 = .ok (.iload_n 1, 1) := by decide +kernel
theorem dX8_goCures_12 : decode cX8_goCures 12 = .ok (.aload_n 0, 1) := by decide +kernel
theorem dX8_goCures_13 : decode cX8_goCures 13 = .ok (.getfield 80, 3) := by decide +kernel
theorem dX8_goCures_16 : decode cX8_goCures 16 = .ok (.if_icmp .ge 107, 3) := by decide +kernel
theorem dX8_goCures_19 : decode cX8_goCures 19 = .ok (.aload_n 0, 1) := by decide +kernel
theorem dX8_goCures_20 : decode cX8_goCures 20 = .ok (.getfield 28, 3) := by decide +kernel
theorem dX8_goCures_23 : decode cX8_goCures 23 = .ok (.iload_n 1, 1) := by decide +kernel
theorem dX8_goCures_24 : decode cX8_goCures 24 = .ok (.iaload, 1) := by decide +kernel
theorem dX8_goCures_25 : decode cX8_goCures 25 = .ok (.bipush 46, 2) := by decide +kernel
theorem dX8_goCures_27 : decode cX8_goCures 27 = .ok (.if_icmp .ne 17, 3) := by decide +kernel
theorem dX8_goCures_30 : decode cX8_goCures 30 = .ok (.aload_n 0, 1) := by decide +kernel
theorem dX8_goCures_31 : decode cX8_goCures 31 = .ok (.aload_n 0, 1) := by decide +kernel
theorem dX8_goCures_32 : decode cX8_goCures 32 = .ok (.invokevirtual 114, 3) := by decide +kernel
theorem dX8_goCures_35 : decode cX8_goCures 35 = .ok (.putfield 117, 3) := by decide +kernel
theorem dX8_goCures_38 : decode cX8_goCures 38 = .ok (.iinc 1 1, 3) := by decide +kernel
theorem dX8_goCures_41 : decode cX8_goCures 41 = .ok (.goto 57, 3) := by decide +kernel
theorem dX8_goCures_44 : decode cX8_goCures 44 = .ok (.aload_n 0, 1) := by decide +kernel
theorem dX8_goCures_45 : decode cX8_goCures 45 = .ok (.getfield 28, 3) := by decide +kernel
theorem dX8_goCures_48 : decode cX8_goCures 48 = .ok (.iload_n 1, 1) := by decide +kernel
theorem dX8_goCures_49 : decode cX8_goCures 49 = .ok (.iaload, 1) := by decide +kernel
theorem dX8_goCures_50 : decode cX8_goCures 50 = .ok (.bipush 65, 2) := by decide +kernel
theorem dX8_goCures_52 : decode cX8_goCures 52 = .ok (.isub, 1) := by decide +kernel
theorem dX8_goCures_53 : decode cX8_goCures 53 = .ok (.istore_n 2, 1) := by decide +kernel
theorem dX8_goCures_54 : decode cX8_goCures 54 = .ok (.aload_n 0, 1) := by decide +kernel
theorem dX8_goCures_55 : decode cX8_goCures 55 = .ok (.aload_n 0, 1) := by decide +kernel
theorem dX8_goCures_56 : decode cX8_goCures 56 = .ok (.getfield 28, 3) := by decide +kernel
theorem dX8_goCures_59 : decode cX8_goCures 59 = .ok (.iload_n 1, 1) := by decide +kernel
theorem dX8_goCures_60 : decode cX8_goCures 60 = .ok (.iconst 1, 1) := by decide +kernel
theorem dX8_goCures_61 : decode cX8_goCures 61 = .ok (.iadd, 1) := by decide +kernel
theorem dX8_goCures_62 : decode cX8_goCures 62 = .ok (.iaload, 1) := by decide +kernel
theorem dX8_goCures_63 : decode cX8_goCures 63 = .ok (.bipush 33, 2) := by decide +kernel
theorem dX8_goCures_65 : decode cX8_goCures 65 = .ok (.if_icmp .ne 11, 3) := by decide +kernel
theorem dX8_goCures_68 : decode cX8_goCures 68 = .ok (.aload_n 0, 1) := by decide +kernel
theorem dX8_goCures_69 : decode cX8_goCures 69 = .ok (.iload_n 2, 1) := by decide +kernel
theorem dX8_goCures_70 : decode cX8_goCures 70 = .ok (.invokevirtual 120, 3) := by decide +kernel
theorem dX8_goCures_73 : decode cX8_goCures 73 = .ok (.goto 19, 3) := by decide +kernel
theorem dX8_goCures_76 : decode cX8_goCures 76 = .ok (.aload_n 0, 1) := by decide +kernel
theorem dX8_goCures_77 : decode cX8_goCures 77 = .ok (.iload_n 2, 1) := by decide +kernel
theorem dX8_goCures_78 : decode cX8_goCures 78 = .ok (.aload_n 0, 1) := by decide +kernel
theorem dX8_goCures_79 : decode cX8_goCures 79 = .ok (.getfield 28, 3) := by decide +kernel
theorem dX8_goCures_82 : decode cX8_goCures 82 = .ok (.iload_n 1, 1) := by decide +kernel
theorem dX8_goCures_83 : decode cX8_goCures 83 = .ok (.iconst 1, 1) := by decide +kernel
theorem dX8_goCures_84 : decode cX8_goCures 84 = .ok (.iadd, 1) := by decide +kernel
theorem dX8_goCures_85 : decode cX8_goCures 85 = .ok (.iaload, 1) := by decide +kernel
theorem dX8_goCures_86 : decode cX8_goCures 86 = .ok (.bipush 97, 2) := by decide +kernel
theorem dX8_goCures_88 : decode cX8_goCures 88 = .ok (.isub, 1) := by decide +kernel
theorem dX8_goCures_89 : decode cX8_goCures 89 = .ok (.invokevirtual 123, 3) := by decide +kernel
theorem dX8_goCures_92 : decode cX8_goCures 92 = .ok (.putfield 117, 3) := by decide +kernel
theorem dX8_goCures_95 : decode cX8_goCures 95 = .ok (.iinc 1 2, 3) := by decide +kernel
theorem dX8_goCures_98 : decode cX8_goCures 98 = .ok (.aload_n 0, 1) := by decide +kernel
theorem dX8_goCures_99 : decode cX8_goCures 99 = .ok (.getfield 117, 3) := by decide +kernel
theorem dX8_goCures_102 : decode cX8_goCures 102 = .ok (.ifCond .le 8, 3) := by decide +kernel
theorem dX8_goCures_105 : decode cX8_goCures 105 = .ok (.aload_n 0, 1) := by decide +kernel
theorem dX8_goCures_106 : decode cX8_goCures 106 = .ok (.getfield 111, 3) := by decide +kernel
theorem dX8_goCures_109 : decode cX8_goCures 109 = .ok (.ireturn, 1) := by decide +kernel
theorem dX8_goCures_110 : decode cX8_goCures 110 = .ok (.aload_n 0, 1) := by decide +kernel
theorem dX8_goCures_111 : decode cX8_goCures 111 = .ok (.dup, 1) := by decide +kernel
theorem dX8_goCures_112 : decode cX8_goCures 112 = .ok (.getfield 111, 3) := by decide +kernel
theorem dX8_goCures_115 : decode cX8_goCures 115 = .ok (.iconst 1, 1) := by decide +kernel
theorem dX8_goCures_116 : decode cX8_goCures 116 = .ok (.iadd, 1) := by decide +kernel
theorem dX8_goCures_117 : decode cX8_goCures 117 = .ok (.putfield 111, 3) := by decide +kernel
theorem dX8_goCures_120 : decode cX8_goCures 120 = .ok (.goto (-109), 3) := by decide +kernel
theorem dX8_goCures_123 : decode cX8_goCures 123 = .ok (.bipush (-6), 2) := by decide +kernel
theorem dX8_goCures_125 : decode cX8_goCures 125 = .ok (.ireturn, 1) := by decide +kernel
theorem dX8_judge_0 : decode cX8_judge 0 = .ok (.iload_n 1, 1) := by decide +kernel
theorem dX8_judge_1 : decode cX8_judge 1 = .ok (.iconst 0, 1) := by decide +kernel
theorem dX8_judge_2 : decode cX8_judge 2 = .ok (.iconst 1, 1) := by decide +kernel
theorem dX8_judge_3 : decode cX8_judge 3 = .ok (.invokestatic 61, 3) := by decide +kernel
theorem dX8_judge_6 : decode cX8_judge 6 = .ok (.ifCond .ne 6, 3) := by decide +kernel
theorem dX8_judge_9 : decode cX8_judge 9 = .ok (.bipush (-2), 2) := by decide +kernel
theorem dX8_judge_11 : decode cX8_judge 11 = .ok (.ireturn, 1) := by decide +kernel
theorem dX8_judge_12 : decode cX8_judge 12 = .ok (.aload_n 0, 1) := by decide +kernel
theorem dX8_judge_13 : decode cX8_judge 13 = .ok (.invokevirtual 83, 3) := by decide +kernel
theorem dX8_judge_16 : decode cX8_judge 16 = .ok (.ifCond .lt 6, 3) := by decide +kernel
theorem dX8_judge_19 : decode cX8_judge 19 = .ok (.bipush (-5), 2) := by decide +kernel
theorem dX8_judge_21 : decode cX8_judge 21 = .ok (.ireturn, 1) := by decide +kernel
theorem dX8_judge_22 : decode cX8_judge 22 = .ok (.aload_n 0, 1) := by decide +kernel
theorem dX8_judge_23 : decode cX8_judge 23 = .ok (.invokevirtual 127, 3) := by decide +kernel
theorem dX8_judge_26 : decode cX8_judge 26 = .ok (.istore_n 2, 1) := by decide +kernel
theorem dX8_judge_27 : decode cX8_judge 27 = .ok (.iload_n 2, 1) := by decide +kernel
theorem dX8_judge_28 : decode cX8_judge 28 = .ok (.ifCond .lt 7, 3) := by decide +kernel
theorem dX8_judge_31 : decode cX8_judge 31 = .ok (.iload_n 1, 1) := by decide +kernel
theorem dX8_judge_32 : decode cX8_judge 32 = .ok (.ifCond .ne 7, 3) := by decide +kernel
theorem dX8_judge_35 : decode cX8_judge 35 = .ok (.iload_n 2, 1) := by decide +kernel
theorem dX8_judge_36 : decode cX8_judge 36 = .ok (.goto 7, 3) := by decide +kernel
theorem dX8_judge_39 : decode cX8_judge 39 = .ok (.aload_n 0, 1) := by decide +kernel
theorem dX8_judge_40 : decode cX8_judge 40 = .ok (.getfield 117, 3) := by decide +kernel
theorem dX8_judge_43 : decode cX8_judge 43 = .ok (.ireturn, 1) := by decide +kernel
theorem dX8_barOfCures_0 : decode cX8_barOfCures 0 = .ok (.aload_n 0, 1) := by decide +kernel
theorem dX8_barOfCures_1 : decode cX8_barOfCures 1 = .ok (.invokevirtual 83, 3) := by decide +kernel
theorem dX8_barOfCures_4 : decode cX8_barOfCures 4 = .ok (.ifCond .ge 10, 3) := by decide +kernel
theorem dX8_barOfCures_7 : decode cX8_barOfCures 7 = .ok (.aload_n 0, 1) := by decide +kernel
theorem dX8_barOfCures_8 : decode cX8_barOfCures 8 = .ok (.invokevirtual 127, 3) := by decide +kernel
theorem dX8_barOfCures_11 : decode cX8_barOfCures 11 = .ok (.ifCond .lt 8, 3) := by decide +kernel
theorem dX8_barOfCures_14 : decode cX8_barOfCures 14 = .ok (.bipush (-5), 2) := by decide +kernel
theorem dX8_barOfCures_16 : decode cX8_barOfCures 16 = .ok (.goto 4, 3) := by decide +kernel
theorem dX8_barOfCures_19 : decode cX8_barOfCures 19 = .ok (.iconst 0, 1) := by decide +kernel
theorem dX8_barOfCures_20 : decode cX8_barOfCures 20 = .ok (.ireturn, 1) := by decide +kernel
theorem dX8_done_0 : decode cX8_done 0 = .ok (.aload_n 0, 1) := by decide +kernel
theorem dX8_done_1 : decode cX8_done 1 = .ok (.invokevirtual 130, 3) := by decide +kernel
theorem dX8_done_4 : decode cX8_done 4 = .ok (.ifCond .ge 6, 3) := by decide +kernel
theorem dX8_done_7 : decode cX8_done 7 = .ok (.bipush (-5), 2) := by decide +kernel
theorem dX8_done_9 : decode cX8_done 9 = .ok (.ireturn, 1) := by decide +kernel
theorem dX8_done_10 : decode cX8_done 10 = .ok (.iconst 0, 1) := by decide +kernel
theorem dX8_done_11 : decode cX8_done 11 = .ok (.istore_n 1, 1) := by decide +kernel
theorem dX8_done_12 : decode cX8_done 12 = .ok (.iload_n 1, 1) := by decide +kernel
theorem dX8_done_13 : decode cX8_done 13 = .ok (.bipush 26, 2) := by decide +kernel
theorem dX8_done_15 : decode cX8_done 15 = .ok (.if_icmp .ge 21, 3) := by decide +kernel
theorem dX8_done_18 : decode cX8_done 18 = .ok (.aload_n 0, 1) := by decide +kernel
theorem dX8_done_19 : decode cX8_done 19 = .ok (.getfield 7, 3) := by decide +kernel
theorem dX8_done_22 : decode cX8_done 22 = .ok (.iload_n 1, 1) := by decide +kernel
theorem dX8_done_23 : decode cX8_done 23 = .ok (.aload_n 0, 1) := by decide +kernel
theorem dX8_done_24 : decode cX8_done 24 = .ok (.getfield 13, 3) := by decide +kernel
theorem dX8_done_27 : decode cX8_done 27 = .ok (.iload_n 1, 1) := by decide +kernel
theorem dX8_done_28 : decode cX8_done 28 = .ok (.iaload, 1) := by decide +kernel
theorem dX8_done_29 : decode cX8_done 29 = .ok (.iastore, 1) := by decide +kernel
theorem dX8_done_30 : decode cX8_done 30 = .ok (.iinc 1 1, 3) := by decide +kernel
theorem dX8_done_33 : decode cX8_done 33 = .ok (.goto (-21), 3) := by decide +kernel
theorem dX8_done_36 : decode cX8_done 36 = .ok (.aload_n 0, 1) := by decide +kernel
theorem dX8_done_37 : decode cX8_done 37 = .ok (.iconst 0, 1) := by decide +kernel
theorem dX8_done_38 : decode cX8_done 38 = .ok (.putfield 80, 3) := by decide +kernel
theorem dX8_done_41 : decode cX8_done 41 = .ok (.aload_n 0, 1) := by decide +kernel
theorem dX8_done_42 : decode cX8_done 42 = .ok (.getfield 111, 3) := by decide +kernel
theorem dX8_done_45 : decode cX8_done 45 = .ok (.ireturn, 1) := by decide +kernel
theorem dX8_behind_0 : decode cX8_behind 0 = .ok (.aload_n 0, 1) := by decide +kernel
theorem dX8_behind_1 : decode cX8_behind 1 = .ok (.iload_n 1, 1) := by decide +kernel
theorem dX8_behind_2 : decode cX8_behind 2 = .ok (.invokevirtual 73, 3) := by decide +kernel
theorem dX8_behind_5 : decode cX8_behind 5 = .ok (.ifCond .ne 5, 3) := by decide +kernel
theorem dX8_behind_8 : decode cX8_behind 8 = .ok (.iconst (-1), 1) := by decide +kernel
theorem dX8_behind_9 : decode cX8_behind 9 = .ok (.ireturn, 1) := by decide +kernel
theorem dX8_behind_10 : decode cX8_behind 10 = .ok (.iload_n 2, 1) := by decide +kernel
theorem dX8_behind_11 : decode cX8_behind 11 = .ok (.iconst 0, 1) := by decide +kernel
theorem dX8_behind_12 : decode cX8_behind 12 = .ok (.iconst 3, 1) := by decide +kernel
theorem dX8_behind_13 : decode cX8_behind 13 = .ok (.invokestatic 61, 3) := by decide +kernel
theorem dX8_behind_16 : decode cX8_behind 16 = .ok (.ifCond .ne 6, 3) := by decide +kernel
theorem dX8_behind_19 : decode cX8_behind 19 = .ok (.bipush (-2), 2) := by decide +kernel
theorem dX8_behind_21 : decode cX8_behind 21 = .ok (.ireturn, 1) := by decide +kernel
theorem dX8_behind_22 : decode cX8_behind 22 = .ok (.aload_n 0, 1) := by decide +kernel
theorem dX8_behind_23 : decode cX8_behind 23 = .ok (.invokevirtual 130, 3) := by decide +kernel
theorem dX8_behind_26 : decode cX8_behind 26 = .ok (.ifCond .ge 6, 3) := by decide +kernel
theorem dX8_behind_29 : decode cX8_behind 29 = .ok (.bipush (-5), 2) := by decide +kernel
theorem dX8_behind_31 : decode cX8_behind 31 = .ok (.ireturn, 1) := by decide +kernel
theorem dX8_behind_32 : decode cX8_behind 32 = .ok (.iload_n 2, 1) := by decide +kernel
theorem dX8_behind_33 : decode cX8_behind 33 = .ok (.iconst 3, 1) := by decide +kernel
theorem dX8_behind_34 : decode cX8_behind 34 = .ok (.if_icmp .ge 16, 3) := by decide +kernel
theorem dX8_behind_37 : decode cX8_behind 37 = .ok (.aload_n 0, 1) := by decide +kernel
theorem dX8_behind_38 : decode cX8_behind 38 = .ok (.getfield 13, 3) := by decide +kernel
theorem dX8_behind_41 : decode cX8_behind 41 = .ok (.iconst 3, 1) := by decide +kernel
theorem dX8_behind_42 : decode cX8_behind 42 = .ok (.iload_n 1, 1) := by decide +kernel
theorem dX8_behind_43 : decode cX8_behind 43 = .ok (.imul, 1) := by decide +kernel
theorem dX8_behind_44 : decode cX8_behind 44 = .ok (.iload_n 2, 1) := by decide +kernel
theorem dX8_behind_45 : decode cX8_behind 45 = .ok (.iadd, 1) := by decide +kernel
theorem dX8_behind_46 : decode cX8_behind 46 = .ok (.iaload, 1) := by decide +kernel
theorem dX8_behind_47 : decode cX8_behind 47 = .ok (.goto 12, 3) := by decide +kernel
theorem dX8_behind_50 : decode cX8_behind 50 = .ok (.aload_n 0, 1) := by decide +kernel
theorem dX8_behind_51 : decode cX8_behind 51 = .ok (.getfield 13, 3) := by decide +kernel
theorem dX8_behind_54 : decode cX8_behind 54 = .ok (.bipush 18, 2) := by decide +kernel
theorem dX8_behind_56 : decode cX8_behind 56 = .ok (.iload_n 1, 1) := by decide +kernel
theorem dX8_behind_57 : decode cX8_behind 57 = .ok (.iadd, 1) := by decide +kernel
theorem dX8_behind_58 : decode cX8_behind 58 = .ok (.iaload, 1) := by decide +kernel
theorem dX8_behind_59 : decode cX8_behind 59 = .ok (.ireturn, 1) := by decide +kernel
theorem dX8_worse_0 : decode cX8_worse 0 = .ok (.iload_n 1, 1) := by decide +kernel
theorem dX8_worse_1 : decode cX8_worse 1 = .ok (.iconst 0, 1) := by decide +kernel
theorem dX8_worse_2 : decode cX8_worse 2 = .ok (.iconst 1, 1) := by decide +kernel
theorem dX8_worse_3 : decode cX8_worse 3 = .ok (.invokestatic 61, 3) := by decide +kernel
theorem dX8_worse_6 : decode cX8_worse 6 = .ok (.ifCond .ne 6, 3) := by decide +kernel
theorem dX8_worse_9 : decode cX8_worse 9 = .ok (.bipush (-2), 2) := by decide +kernel
theorem dX8_worse_11 : decode cX8_worse 11 = .ok (.ireturn, 1) := by decide +kernel
theorem dX8_worse_12 : decode cX8_worse 12 = .ok (.aload_n 0, 1) := by decide +kernel
theorem dX8_worse_13 : decode cX8_worse 13 = .ok (.invokevirtual 130, 3) := by decide +kernel
theorem dX8_worse_16 : decode cX8_worse 16 = .ok (.ifCond .ge 6, 3) := by decide +kernel
theorem dX8_worse_19 : decode cX8_worse 19 = .ok (.bipush (-5), 2) := by decide +kernel
theorem dX8_worse_21 : decode cX8_worse 21 = .ok (.ireturn, 1) := by decide +kernel
theorem dX8_worse_22 : decode cX8_worse 22 = .ok (.iload_n 1, 1) := by decide +kernel
theorem dX8_worse_23 : decode cX8_worse 23 = .ok (.ifCond .ne 10, 3) := by decide +kernel
theorem dX8_worse_26 : decode cX8_worse 26 = .ok (.aload_n 0, 1) := by decide +kernel
theorem dX8_worse_27 : decode cX8_worse 27 = .ok (.getfield 96, 3) := by decide +kernel
theorem dX8_worse_30 : decode cX8_worse 30 = .ok (.goto 7, 3) := by decide +kernel
theorem dX8_worse_33 : decode cX8_worse 33 = .ok (.aload_n 0, 1) := by decide +kernel
theorem dX8_worse_34 : decode cX8_worse 34 = .ok (.getfield 102, 3) := by decide +kernel
theorem dX8_worse_37 : decode cX8_worse 37 = .ok (.ireturn, 1) := by decide +kernel
theorem dX8_well_0 : decode cX8_well 0 = .ok (.aload_n 0, 1) := by decide +kernel
theorem dX8_well_1 : decode cX8_well 1 = .ok (.invokevirtual 105, 3) := by decide +kernel
theorem dX8_well_4 : decode cX8_well 4 = .ok (.iconst 0, 1) := by decide +kernel
theorem dX8_well_5 : decode cX8_well 5 = .ok (.istore_n 1, 1) := by decide +kernel
theorem dX8_well_6 : decode cX8_well 6 = .ok (.iconst 0, 1) := by decide +kernel
theorem dX8_well_7 : decode cX8_well 7 = .ok (.istore_n 2, 1) := by decide +kernel
theorem dX8_well_8 : decode cX8_well 8 = .ok (.iload_n 2, 1) := by decide +kernel
theorem dX8_well_9 : decode cX8_well 9 = .ok (.bipush 6, 2) := by decide +kernel
theorem dX8_well_11 : decode cX8_well 11 = .ok (.if_icmp .ge 38, 3) := by decide +kernel
theorem dX8_well_14 : decode cX8_well 14 = .ok (.iload_n 1, 1) := by decide +kernel
theorem dX8_well_15 : decode cX8_well 15 = .ok (.aload_n 0, 1) := by decide +kernel
theorem dX8_well_16 : decode cX8_well 16 = .ok (.getfield 57, 3) := by decide +kernel
theorem dX8_well_19 : decode cX8_well 19 = .ok (.iload_n 2, 1) := by decide +kernel
theorem dX8_well_20 : decode cX8_well 20 = .ok (.invokestatic 65, 3) := by decide +kernel
theorem dX8_well_23 : decode cX8_well 23 = .ok (.ifCond .eq 17, 3) := by decide +kernel
theorem dX8_well_26 : decode cX8_well 26 = .ok (.aload_n 0, 1) := by decide +kernel
theorem dX8_well_27 : decode cX8_well 27 = .ok (.iload_n 2, 1) := by decide +kernel
theorem dX8_well_28 : decode cX8_well 28 = .ok (.invokevirtual 90, 3) := by decide +kernel
theorem dX8_well_31 : decode cX8_well 31 = .ok (.ifCond .ne 9, 3) := by decide +kernel
theorem dX8_well_34 : decode cX8_well 34 = .ok (.iconst 1, 1) := by decide +kernel
theorem dX8_well_35 : decode cX8_well 35 = .ok (.iload_n 2, 1) := by decide +kernel
theorem dX8_well_36 : decode cX8_well 36 = .ok (.ishl, 1) := by decide +kernel
theorem dX8_well_37 : decode cX8_well 37 = .ok (.goto 4, 3) := by decide +kernel
theorem dX8_well_40 : decode cX8_well 40 = .ok (.iconst 0, 1) := by decide +kernel
theorem dX8_well_41 : decode cX8_well 41 = .ok (.ior, 1) := by decide +kernel
theorem dX8_well_42 : decode cX8_well 42 = .ok (.istore_n 1, 1) := by decide +kernel
theorem dX8_well_43 : decode cX8_well 43 = .ok (.iinc 2 1, 3) := by decide +kernel
theorem dX8_well_46 : decode cX8_well 46 = .ok (.goto (-38), 3) := by decide +kernel
theorem dX8_well_49 : decode cX8_well 49 = .ok (.iload_n 1, 1) := by decide +kernel
theorem dX8_well_50 : decode cX8_well 50 = .ok (.ireturn, 1) := by decide +kernel
theorem dX8_stays_0 : decode cX8_stays 0 = .ok (.aload_n 0, 1) := by decide +kernel
theorem dX8_stays_1 : decode cX8_stays 1 = .ok (.iload_n 1, 1) := by decide +kernel
theorem dX8_stays_2 : decode cX8_stays 2 = .ok (.invokevirtual 73, 3) := by decide +kernel
theorem dX8_stays_5 : decode cX8_stays 5 = .ok (.ifCond .ne 5, 3) := by decide +kernel
theorem dX8_stays_8 : decode cX8_stays 8 = .ok (.iconst (-1), 1) := by decide +kernel
theorem dX8_stays_9 : decode cX8_stays 9 = .ok (.ireturn, 1) := by decide +kernel
theorem dX8_stays_10 : decode cX8_stays 10 = .ok (.aload_n 0, 1) := by decide +kernel
theorem dX8_stays_11 : decode cX8_stays 11 = .ok (.invokevirtual 105, 3) := by decide +kernel
theorem dX8_stays_14 : decode cX8_stays 14 = .ok (.aload_n 0, 1) := by decide +kernel
theorem dX8_stays_15 : decode cX8_stays 15 = .ok (.getfield 13, 3) := by decide +kernel
theorem dX8_stays_18 : decode cX8_stays 18 = .ok (.bipush 24, 2) := by decide +kernel
theorem dX8_stays_20 : decode cX8_stays 20 = .ok (.iconst 0, 1) := by decide +kernel
theorem dX8_stays_21 : decode cX8_stays 21 = .ok (.iastore, 1) := by decide +kernel
theorem dX8_stays_22 : decode cX8_stays 22 = .ok (.iconst 0, 1) := by decide +kernel
theorem dX8_stays_23 : decode cX8_stays 23 = .ok (.istore_n 2, 1) := by decide +kernel
theorem dX8_stays_24 : decode cX8_stays 24 = .ok (.iload_n 2, 1) := by decide +kernel
theorem dX8_stays_25 : decode cX8_stays 25 = .ok (.bipush 61, 2) := by decide +kernel
theorem dX8_stays_27 : decode cX8_stays 27 = .ok (.if_icmp .ge 23, 3) := by decide +kernel
theorem dX8_stays_30 : decode cX8_stays 30 = .ok (.aload_n 0, 1) := by decide +kernel
theorem dX8_stays_31 : decode cX8_stays 31 = .ok (.iload_n 1, 1) := by decide +kernel
theorem dX8_stays_32 : decode cX8_stays 32 = .ok (.invokevirtual 90, 3) := by decide +kernel
theorem dX8_stays_35 : decode cX8_stays 35 = .ok (.ifCond .ne 5, 3) := by decide +kernel
theorem dX8_stays_38 : decode cX8_stays 38 = .ok (.iload_n 2, 1) := by decide +kernel
theorem dX8_stays_39 : decode cX8_stays 39 = .ok (.ireturn, 1) := by decide +kernel
theorem dX8_stays_40 : decode cX8_stays 40 = .ok (.aload_n 0, 1) := by decide +kernel
theorem dX8_stays_41 : decode cX8_stays 41 = .ok (.invokevirtual 93, 3) := by decide +kernel
theorem dX8_stays_44 : decode cX8_stays 44 = .ok (.iinc 2 1, 3) := by decide +kernel
theorem dX8_stays_47 : decode cX8_stays 47 = .ok (.goto (-23), 3) := by decide +kernel
theorem dX8_stays_50 : decode cX8_stays 50 = .ok (.bipush (-6), 2) := by decide +kernel
theorem dX8_stays_52 : decode cX8_stays 52 = .ok (.ireturn, 1) := by decide +kernel
theorem dX8_aloneIn_0 : decode cX8_aloneIn 0 = .ok (.iconst 0, 1) := by decide +kernel
theorem dX8_aloneIn_1 : decode cX8_aloneIn 1 = .ok (.istore_n 3, 1) := by decide +kernel
theorem dX8_aloneIn_2 : decode cX8_aloneIn 2 = .ok (.iload_n 3, 1) := by decide +kernel
theorem dX8_aloneIn_3 : decode cX8_aloneIn 3 = .ok (.iconst 3, 1) := by decide +kernel
theorem dX8_aloneIn_4 : decode cX8_aloneIn 4 = .ok (.if_icmp .ge 29, 3) := by decide +kernel
theorem dX8_aloneIn_7 : decode cX8_aloneIn 7 = .ok (.aload_n 0, 1) := by decide +kernel
theorem dX8_aloneIn_8 : decode cX8_aloneIn 8 = .ok (.getfield 13, 3) := by decide +kernel
theorem dX8_aloneIn_11 : decode cX8_aloneIn 11 = .ok (.iconst 3, 1) := by decide +kernel
theorem dX8_aloneIn_12 : decode cX8_aloneIn 12 = .ok (.iload_n 1, 1) := by decide +kernel
theorem dX8_aloneIn_13 : decode cX8_aloneIn 13 = .ok (.imul, 1) := by decide +kernel
theorem dX8_aloneIn_14 : decode cX8_aloneIn 14 = .ok (.iload_n 3, 1) := by decide +kernel
theorem dX8_aloneIn_15 : decode cX8_aloneIn 15 = .ok (.iadd, 1) := by decide +kernel
theorem dX8_aloneIn_16 : decode cX8_aloneIn 16 = .ok (.aload_n 0, 1) := by decide +kernel
theorem dX8_aloneIn_17 : decode cX8_aloneIn 17 = .ok (.getfield 7, 3) := by decide +kernel
theorem dX8_aloneIn_20 : decode cX8_aloneIn 20 = .ok (.iconst 3, 1) := by decide +kernel
theorem dX8_aloneIn_21 : decode cX8_aloneIn 21 = .ok (.iload_n 1, 1) := by decide +kernel
theorem dX8_aloneIn_22 : decode cX8_aloneIn 22 = .ok (.imul, 1) := by decide +kernel
theorem dX8_aloneIn_23 : decode cX8_aloneIn 23 = .ok (.iload_n 3, 1) := by decide +kernel
theorem dX8_aloneIn_24 : decode cX8_aloneIn 24 = .ok (.iadd, 1) := by decide +kernel
theorem dX8_aloneIn_25 : decode cX8_aloneIn 25 = .ok (.iaload, 1) := by decide +kernel
theorem dX8_aloneIn_26 : decode cX8_aloneIn 26 = .ok (.iastore, 1) := by decide +kernel
theorem dX8_aloneIn_27 : decode cX8_aloneIn 27 = .ok (.iinc 3 1, 3) := by decide +kernel
theorem dX8_aloneIn_30 : decode cX8_aloneIn 30 = .ok (.goto (-28), 3) := by decide +kernel
theorem dX8_aloneIn_33 : decode cX8_aloneIn 33 = .ok (.iconst 0, 1) := by decide +kernel
theorem dX8_aloneIn_34 : decode cX8_aloneIn 34 = .ok (.istore_n 3, 1) := by decide +kernel
theorem dX8_aloneIn_35 : decode cX8_aloneIn 35 = .ok (.iload_n 3, 1) := by decide +kernel
theorem dX8_aloneIn_36 : decode cX8_aloneIn 36 = .ok (.bipush 61, 2) := by decide +kernel
theorem dX8_aloneIn_38 : decode cX8_aloneIn 38 = .ok (.if_icmp .ge 71, 3) := by decide +kernel
theorem dX8_aloneIn_41 : decode cX8_aloneIn 41 = .ok (.aload_n 0, 1) := by decide +kernel
theorem dX8_aloneIn_42 : decode cX8_aloneIn 42 = .ok (.iload_n 1, 1) := by decide +kernel
theorem dX8_aloneIn_43 : decode cX8_aloneIn 43 = .ok (.invokevirtual 90, 3) := by decide +kernel
theorem dX8_aloneIn_46 : decode cX8_aloneIn 46 = .ok (.ifCond .ne 5, 3) := by decide +kernel
theorem dX8_aloneIn_49 : decode cX8_aloneIn 49 = .ok (.iload_n 3, 1) := by decide +kernel
theorem dX8_aloneIn_50 : decode cX8_aloneIn 50 = .ok (.ireturn, 1) := by decide +kernel
theorem dX8_aloneIn_51 : decode cX8_aloneIn 51 = .ok (.iconst 0, 1) := by decide +kernel
theorem dX8_aloneIn_52 : decode cX8_aloneIn 52 = .ok (.istore 4, 2) := by decide +kernel
theorem dX8_aloneIn_54 : decode cX8_aloneIn 54 = .ok (.iload 4, 2) := by decide +kernel
theorem dX8_aloneIn_56 : decode cX8_aloneIn 56 = .ok (.iconst 3, 1) := by decide +kernel
theorem dX8_aloneIn_57 : decode cX8_aloneIn 57 = .ok (.if_icmp .ge 46, 3) := by decide +kernel
theorem dX8_aloneIn_60 : decode cX8_aloneIn 60 = .ok (.aload_n 0, 1) := by decide +kernel
theorem dX8_aloneIn_61 : decode cX8_aloneIn 61 = .ok (.getfield 13, 3) := by decide +kernel
theorem dX8_aloneIn_64 : decode cX8_aloneIn 64 = .ok (.iconst 3, 1) := by decide +kernel
theorem dX8_aloneIn_65 : decode cX8_aloneIn 65 = .ok (.iload_n 1, 1) := by decide +kernel
theorem dX8_aloneIn_66 : decode cX8_aloneIn 66 = .ok (.imul, 1) := by decide +kernel
theorem dX8_aloneIn_67 : decode cX8_aloneIn 67 = .ok (.iload 4, 2) := by decide +kernel
theorem dX8_aloneIn_69 : decode cX8_aloneIn 69 = .ok (.iadd, 1) := by decide +kernel
theorem dX8_aloneIn_70 : decode cX8_aloneIn 70 = .ok (.aload_n 0, 1) := by decide +kernel
theorem dX8_aloneIn_71 : decode cX8_aloneIn 71 = .ok (.getfield 13, 3) := by decide +kernel
theorem dX8_aloneIn_74 : decode cX8_aloneIn 74 = .ok (.iconst 3, 1) := by decide +kernel
theorem dX8_aloneIn_75 : decode cX8_aloneIn 75 = .ok (.iload_n 1, 1) := by decide +kernel
theorem dX8_aloneIn_76 : decode cX8_aloneIn 76 = .ok (.imul, 1) := by decide +kernel
theorem dX8_aloneIn_77 : decode cX8_aloneIn 77 = .ok (.iload 4, 2) := by decide +kernel
theorem dX8_aloneIn_79 : decode cX8_aloneIn 79 = .ok (.iadd, 1) := by decide +kernel
theorem dX8_aloneIn_80 : decode cX8_aloneIn 80 = .ok (.iaload, 1) := by decide +kernel
theorem dX8_aloneIn_81 : decode cX8_aloneIn 81 = .ok (.aload_n 0, 1) := by decide +kernel
theorem dX8_aloneIn_82 : decode cX8_aloneIn 82 = .ok (.getfield 16, 3) := by decide +kernel
theorem dX8_aloneIn_85 : decode cX8_aloneIn 85 = .ok (.iconst 3, 1) := by decide +kernel
theorem dX8_aloneIn_86 : decode cX8_aloneIn 86 = .ok (.iload_n 2, 1) := by decide +kernel
theorem dX8_aloneIn_87 : decode cX8_aloneIn 87 = .ok (.imul, 1) := by decide +kernel
theorem dX8_aloneIn_88 : decode cX8_aloneIn 88 = .ok (.iload 4, 2) := by decide +kernel
theorem dX8_aloneIn_90 : decode cX8_aloneIn 90 = .ok (.iadd, 1) := by decide +kernel
theorem dX8_aloneIn_91 : decode cX8_aloneIn 91 = .ok (.iaload, 1) := by decide +kernel
theorem dX8_aloneIn_92 : decode cX8_aloneIn 92 = .ok (.iadd, 1) := by decide +kernel
theorem dX8_aloneIn_93 : decode cX8_aloneIn 93 = .ok (.invokestatic 87, 3) := by decide +kernel
theorem dX8_aloneIn_96 : decode cX8_aloneIn 96 = .ok (.iastore, 1) := by decide +kernel
theorem dX8_aloneIn_97 : decode cX8_aloneIn 97 = .ok (.iinc 4 1, 3) := by decide +kernel
theorem dX8_aloneIn_100 : decode cX8_aloneIn 100 = .ok (.goto (-46), 3) := by decide +kernel
theorem dX8_aloneIn_103 : decode cX8_aloneIn 103 = .ok (.iinc 3 1, 3) := by decide +kernel
theorem dX8_aloneIn_106 : decode cX8_aloneIn 106 = .ok (.goto (-71), 3) := by decide +kernel
theorem dX8_aloneIn_109 : decode cX8_aloneIn 109 = .ok (.ldc 133, 2) := by decide +kernel
theorem dX8_aloneIn_111 : decode cX8_aloneIn 111 = .ok (.ireturn, 1) := by decide +kernel
theorem dX8_alone_0 : decode cX8_alone 0 = .ok (.aload_n 0, 1) := by decide +kernel
theorem dX8_alone_1 : decode cX8_alone 1 = .ok (.iload_n 1, 1) := by decide +kernel
theorem dX8_alone_2 : decode cX8_alone 2 = .ok (.invokevirtual 73, 3) := by decide +kernel
theorem dX8_alone_5 : decode cX8_alone 5 = .ok (.ifCond .ne 5, 3) := by decide +kernel
theorem dX8_alone_8 : decode cX8_alone 8 = .ok (.iconst (-1), 1) := by decide +kernel
theorem dX8_alone_9 : decode cX8_alone 9 = .ok (.ireturn, 1) := by decide +kernel
theorem dX8_alone_10 : decode cX8_alone 10 = .ok (.iload_n 2, 1) := by decide +kernel
theorem dX8_alone_11 : decode cX8_alone 11 = .ok (.iconst 0, 1) := by decide +kernel
theorem dX8_alone_12 : decode cX8_alone 12 = .ok (.iconst 1, 1) := by decide +kernel
theorem dX8_alone_13 : decode cX8_alone 13 = .ok (.invokestatic 61, 3) := by decide +kernel
theorem dX8_alone_16 : decode cX8_alone 16 = .ok (.ifCond .ne 6, 3) := by decide +kernel
theorem dX8_alone_19 : decode cX8_alone 19 = .ok (.bipush (-2), 2) := by decide +kernel
theorem dX8_alone_21 : decode cX8_alone 21 = .ok (.ireturn, 1) := by decide +kernel
theorem dX8_alone_22 : decode cX8_alone 22 = .ok (.bipush (-6), 2) := by decide +kernel
theorem dX8_alone_24 : decode cX8_alone 24 = .ok (.istore_n 3, 1) := by decide +kernel
theorem dX8_alone_25 : decode cX8_alone 25 = .ok (.ldc 133, 2) := by decide +kernel
theorem dX8_alone_27 : decode cX8_alone 27 = .ok (.istore 4, 2) := by decide +kernel
theorem dX8_alone_29 : decode cX8_alone 29 = .ok (.iconst 0, 1) := by decide +kernel
theorem dX8_alone_30 : decode cX8_alone 30 = .ok (.istore 5, 2) := by decide +kernel
theorem dX8_alone_32 : decode cX8_alone 32 = .ok (.iload 5, 2) := by decide +kernel
theorem dX8_alone_34 : decode cX8_alone 34 = .ok (.iconst 4, 1) := by decide +kernel
theorem dX8_alone_35 : decode cX8_alone 35 = .ok (.if_icmp .ge 48, 3) := by decide +kernel
theorem dX8_alone_38 : decode cX8_alone 38 = .ok (.aload_n 0, 1) := by decide +kernel
theorem dX8_alone_39 : decode cX8_alone 39 = .ok (.iload_n 1, 1) := by decide +kernel
theorem dX8_alone_40 : decode cX8_alone 40 = .ok (.iload 5, 2) := by decide +kernel
theorem dX8_alone_42 : decode cX8_alone 42 = .ok (.invokevirtual 134, 3) := by decide +kernel
theorem dX8_alone_45 : decode cX8_alone 45 = .ok (.istore 6, 2) := by decide +kernel
theorem dX8_alone_47 : decode cX8_alone 47 = .ok (.iload 6, 2) := by decide +kernel
theorem dX8_alone_49 : decode cX8_alone 49 = .ok (.iload 4, 2) := by decide +kernel
theorem dX8_alone_51 : decode cX8_alone 51 = .ok (.if_icmp .ge 8, 3) := by decide +kernel
theorem dX8_alone_54 : decode cX8_alone 54 = .ok (.iload 5, 2) := by decide +kernel
theorem dX8_alone_56 : decode cX8_alone 56 = .ok (.goto 4, 3) := by decide +kernel
theorem dX8_alone_59 : decode cX8_alone 59 = .ok (.iload_n 3, 1) := by decide +kernel
theorem dX8_alone_60 : decode cX8_alone 60 = .ok (.istore_n 3, 1) := by decide +kernel
theorem dX8_alone_61 : decode cX8_alone 61 = .ok (.iload 6, 2) := by decide +kernel
theorem dX8_alone_63 : decode cX8_alone 63 = .ok (.iload 4, 2) := by decide +kernel
theorem dX8_alone_65 : decode cX8_alone 65 = .ok (.if_icmp .ge 8, 3) := by decide +kernel
theorem dX8_alone_68 : decode cX8_alone 68 = .ok (.iload 6, 2) := by decide +kernel
theorem dX8_alone_70 : decode cX8_alone 70 = .ok (.goto 5, 3) := by decide +kernel
theorem dX8_alone_73 : decode cX8_alone 73 = .ok (.iload 4, 2) := by decide +kernel
theorem dX8_alone_75 : decode cX8_alone 75 = .ok (.istore 4, 2) := by decide +kernel
theorem dX8_alone_77 : decode cX8_alone 77 = .ok (.iinc 5 1, 3) := by decide +kernel
theorem dX8_alone_80 : decode cX8_alone 80 = .ok (.goto (-48), 3) := by decide +kernel
theorem dX8_alone_83 : decode cX8_alone 83 = .ok (.iload_n 3, 1) := by decide +kernel
theorem dX8_alone_84 : decode cX8_alone 84 = .ok (.ifCond .lt 7, 3) := by decide +kernel
theorem dX8_alone_87 : decode cX8_alone 87 = .ok (.iload_n 2, 1) := by decide +kernel
theorem dX8_alone_88 : decode cX8_alone 88 = .ok (.ifCond .ne 7, 3) := by decide +kernel
theorem dX8_alone_91 : decode cX8_alone 91 = .ok (.iload_n 3, 1) := by decide +kernel
theorem dX8_alone_92 : decode cX8_alone 92 = .ok (.goto 5, 3) := by decide +kernel
theorem dX8_alone_95 : decode cX8_alone 95 = .ok (.iload 4, 2) := by decide +kernel
theorem dX8_alone_97 : decode cX8_alone 97 = .ok (.ireturn, 1) := by decide +kernel
theorem dX8_all_0 : decode cX8_all 0 = .ok (.iload_n 1, 1) := by decide +kernel
theorem dX8_all_1 : decode cX8_all 1 = .ok (.iconst 0, 1) := by decide +kernel
theorem dX8_all_2 : decode cX8_all 2 = .ok (.iconst 1, 1) := by decide +kernel
theorem dX8_all_3 : decode cX8_all 3 = .ok (.invokestatic 61, 3) := by decide +kernel
theorem dX8_all_6 : decode cX8_all 6 = .ok (.ifCond .ne 6, 3) := by decide +kernel
theorem dX8_all_9 : decode cX8_all 9 = .ok (.bipush (-2), 2) := by decide +kernel
theorem dX8_all_11 : decode cX8_all 11 = .ok (.ireturn, 1) := by decide +kernel
theorem dX8_all_12 : decode cX8_all 12 = .ok (.bipush (-6), 2) := by decide +kernel
theorem dX8_all_14 : decode cX8_all 14 = .ok (.istore_n 2, 1) := by decide +kernel
theorem dX8_all_15 : decode cX8_all 15 = .ok (.ldc 133, 2) := by decide +kernel
theorem dX8_all_17 : decode cX8_all 17 = .ok (.istore_n 3, 1) := by decide +kernel
theorem dX8_all_18 : decode cX8_all 18 = .ok (.iconst 0, 1) := by decide +kernel
theorem dX8_all_19 : decode cX8_all 19 = .ok (.istore 4, 2) := by decide +kernel
theorem dX8_all_21 : decode cX8_all 21 = .ok (.iload 4, 2) := by decide +kernel
theorem dX8_all_23 : decode cX8_all 23 = .ok (.sipush 4096, 3) := by decide +kernel
theorem dX8_all_26 : decode cX8_all 26 = .ok (.if_icmp .ge 214, 3) := by decide +kernel
theorem dX8_all_29 : decode cX8_all 29 = .ok (.iconst 1, 1) := by decide +kernel
theorem dX8_all_30 : decode cX8_all 30 = .ok (.istore 5, 2) := by decide +kernel
theorem dX8_all_32 : decode cX8_all 32 = .ok (.iconst 0, 1) := by decide +kernel
theorem dX8_all_33 : decode cX8_all 33 = .ok (.istore 6, 2) := by decide +kernel
theorem dX8_all_35 : decode cX8_all 35 = .ok (.aload_n 0, 1) := by decide +kernel
theorem dX8_all_36 : decode cX8_all 36 = .ok (.invokevirtual 105, 3) := by decide +kernel
theorem dX8_all_39 : decode cX8_all 39 = .ok (.aload_n 0, 1) := by decide +kernel
theorem dX8_all_40 : decode cX8_all 40 = .ok (.getfield 13, 3) := by decide +kernel
theorem dX8_all_43 : decode cX8_all 43 = .ok (.bipush 24, 2) := by decide +kernel
theorem dX8_all_45 : decode cX8_all 45 = .ok (.iconst 0, 1) := by decide +kernel
theorem dX8_all_46 : decode cX8_all 46 = .ok (.iastore, 1) := by decide +kernel
theorem dX8_all_47 : decode cX8_all 47 = .ok (.iconst 0, 1) := by decide +kernel
theorem dX8_all_48 : decode cX8_all 48 = .ok (.istore 7, 2) := by decide +kernel
theorem dX8_all_50 : decode cX8_all 50 = .ok (.iload 7, 2) := by decide +kernel
theorem dX8_all_52 : decode cX8_all 52 = .ok (.bipush 6, 2) := by decide +kernel
theorem dX8_all_54 : decode cX8_all 54 = .ok (.if_icmp .ge 89, 3) := by decide +kernel
theorem dX8_all_57 : decode cX8_all 57 = .ok (.iload 4, 2) := by decide +kernel
theorem dX8_all_59 : decode cX8_all 59 = .ok (.iconst 2, 1) := by decide +kernel
theorem dX8_all_60 : decode cX8_all 60 = .ok (.iconst 5, 1) := by decide +kernel
theorem dX8_all_61 : decode cX8_all 61 = .ok (.iload 7, 2) := by decide +kernel
theorem dX8_all_63 : decode cX8_all 63 = .ok (.isub, 1) := by decide +kernel
theorem dX8_all_64 : decode cX8_all 64 = .ok (.imul, 1) := by decide +kernel
theorem dX8_all_65 : decode cX8_all 65 = .ok (.ishr, 1) := by decide +kernel
theorem dX8_all_66 : decode cX8_all 66 = .ok (.iconst 3, 1) := by decide +kernel
theorem dX8_all_67 : decode cX8_all 67 = .ok (.iand, 1) := by decide +kernel
theorem dX8_all_68 : decode cX8_all 68 = .ok (.istore 8, 2) := by decide +kernel
theorem dX8_all_70 : decode cX8_all 70 = .ok (.aload_n 0, 1) := by decide +kernel
theorem dX8_all_71 : decode cX8_all 71 = .ok (.getfield 13, 3) := by decide +kernel
theorem dX8_all_74 : decode cX8_all 74 = .ok (.bipush 18, 2) := by decide +kernel
theorem dX8_all_76 : decode cX8_all 76 = .ok (.iload 7, 2) := by decide +kernel
theorem dX8_all_78 : decode cX8_all 78 = .ok (.iadd, 1) := by decide +kernel
theorem dX8_all_79 : decode cX8_all 79 = .ok (.iload 8, 2) := by decide +kernel
theorem dX8_all_81 : decode cX8_all 81 = .ok (.iastore, 1) := by decide +kernel
theorem dX8_all_82 : decode cX8_all 82 = .ok (.iload 5, 2) := by decide +kernel
theorem dX8_all_84 : decode cX8_all 84 = .ok (.ifCond .eq 24, 3) := by decide +kernel
theorem dX8_all_87 : decode cX8_all 87 = .ok (.aload_n 0, 1) := by decide +kernel
theorem dX8_all_88 : decode cX8_all 88 = .ok (.getfield 57, 3) := by decide +kernel
theorem dX8_all_91 : decode cX8_all 91 = .ok (.iload 7, 2) := by decide +kernel
theorem dX8_all_93 : decode cX8_all 93 = .ok (.invokestatic 65, 3) := by decide +kernel
theorem dX8_all_96 : decode cX8_all 96 = .ok (.ifCond .ne 8, 3) := by decide +kernel
theorem dX8_all_99 : decode cX8_all 99 = .ok (.iload 8, 2) := by decide +kernel
theorem dX8_all_101 : decode cX8_all 101 = .ok (.ifCond .ne 7, 3) := by decide +kernel
theorem dX8_all_104 : decode cX8_all 104 = .ok (.iconst 1, 1) := by decide +kernel
theorem dX8_all_105 : decode cX8_all 105 = .ok (.goto 4, 3) := by decide +kernel
theorem dX8_all_108 : decode cX8_all 108 = .ok (.iconst 0, 1) := by decide +kernel
theorem dX8_all_109 : decode cX8_all 109 = .ok (.istore 5, 2) := by decide +kernel
theorem dX8_all_111 : decode cX8_all 111 = .ok (.bipush 10, 2) := by decide +kernel
theorem dX8_all_113 : decode cX8_all 113 = .ok (.iload 6, 2) := by decide +kernel
theorem dX8_all_115 : decode cX8_all 115 = .ok (.imul, 1) := by decide +kernel
theorem dX8_all_116 : decode cX8_all 116 = .ok (.aload_n 0, 1) := by decide +kernel
theorem dX8_all_117 : decode cX8_all 117 = .ok (.getfield 57, 3) := by decide +kernel
theorem dX8_all_120 : decode cX8_all 120 = .ok (.iload 7, 2) := by decide +kernel
theorem dX8_all_122 : decode cX8_all 122 = .ok (.invokestatic 65, 3) := by decide +kernel
theorem dX8_all_125 : decode cX8_all 125 = .ok (.ifCond .eq 8, 3) := by decide +kernel
theorem dX8_all_128 : decode cX8_all 128 = .ok (.iload 8, 2) := by decide +kernel
theorem dX8_all_130 : decode cX8_all 130 = .ok (.goto 4, 3) := by decide +kernel
theorem dX8_all_133 : decode cX8_all 133 = .ok (.iconst 4, 1) := by decide +kernel
theorem dX8_all_134 : decode cX8_all 134 = .ok (.iadd, 1) := by decide +kernel
theorem dX8_all_135 : decode cX8_all 135 = .ok (.istore 6, 2) := by decide +kernel
theorem dX8_all_137 : decode cX8_all 137 = .ok (.iinc 7 1, 3) := by decide +kernel
theorem dX8_all_140 : decode cX8_all 140 = .ok (.goto (-90), 3) := by decide +kernel
theorem dX8_all_143 : decode cX8_all 143 = .ok (.iconst 0, 1) := by decide +kernel
theorem dX8_all_144 : decode cX8_all 144 = .ok (.istore 7, 2) := by decide +kernel
theorem dX8_all_146 : decode cX8_all 146 = .ok (.iload 7, 2) := by decide +kernel
theorem dX8_all_148 : decode cX8_all 148 = .ok (.bipush 21, 2) := by decide +kernel
theorem dX8_all_150 : decode cX8_all 150 = .ok (.if_icmp .ge 84, 3) := by decide +kernel
theorem dX8_all_153 : decode cX8_all 153 = .ok (.iload 7, 2) := by decide +kernel
theorem dX8_all_155 : decode cX8_all 155 = .ok (.iload_n 3, 1) := by decide +kernel
theorem dX8_all_156 : decode cX8_all 156 = .ok (.if_icmp .ge 78, 3) := by decide +kernel
theorem dX8_all_159 : decode cX8_all 159 = .ok (.iload 5, 2) := by decide +kernel
theorem dX8_all_161 : decode cX8_all 161 = .ok (.ifCond .eq 73, 3) := by decide +kernel
theorem dX8_all_164 : decode cX8_all 164 = .ok (.iconst 0, 1) := by decide +kernel
theorem dX8_all_165 : decode cX8_all 165 = .ok (.istore 8, 2) := by decide +kernel
theorem dX8_all_167 : decode cX8_all 167 = .ok (.iconst 0, 1) := by decide +kernel
theorem dX8_all_168 : decode cX8_all 168 = .ok (.istore 9, 2) := by decide +kernel
theorem dX8_all_170 : decode cX8_all 170 = .ok (.iload 9, 2) := by decide +kernel
theorem dX8_all_172 : decode cX8_all 172 = .ok (.bipush 6, 2) := by decide +kernel
theorem dX8_all_174 : decode cX8_all 174 = .ok (.if_icmp .ge 36, 3) := by decide +kernel
theorem dX8_all_177 : decode cX8_all 177 = .ok (.iload 8, 2) := by decide +kernel
theorem dX8_all_179 : decode cX8_all 179 = .ok (.aload_n 0, 1) := by decide +kernel
theorem dX8_all_180 : decode cX8_all 180 = .ok (.getfield 57, 3) := by decide +kernel
theorem dX8_all_183 : decode cX8_all 183 = .ok (.iload 9, 2) := by decide +kernel
theorem dX8_all_185 : decode cX8_all 185 = .ok (.invokestatic 65, 3) := by decide +kernel
theorem dX8_all_188 : decode cX8_all 188 = .ok (.ifCond .eq 12, 3) := by decide +kernel
theorem dX8_all_191 : decode cX8_all 191 = .ok (.aload_n 0, 1) := by decide +kernel
theorem dX8_all_192 : decode cX8_all 192 = .ok (.iload 9, 2) := by decide +kernel
theorem dX8_all_194 : decode cX8_all 194 = .ok (.invokevirtual 90, 3) := by decide +kernel
theorem dX8_all_197 : decode cX8_all 197 = .ok (.goto 4, 3) := by decide +kernel
theorem dX8_all_200 : decode cX8_all 200 = .ok (.iconst 0, 1) := by decide +kernel
theorem dX8_all_201 : decode cX8_all 201 = .ok (.iadd, 1) := by decide +kernel
theorem dX8_all_202 : decode cX8_all 202 = .ok (.istore 8, 2) := by decide +kernel
theorem dX8_all_204 : decode cX8_all 204 = .ok (.iinc 9 1, 3) := by decide +kernel
theorem dX8_all_207 : decode cX8_all 207 = .ok (.goto (-37), 3) := by decide +kernel
theorem dX8_all_210 : decode cX8_all 210 = .ok (.iload 8, 2) := by decide +kernel
theorem dX8_all_212 : decode cX8_all 212 = .ok (.ifCond .ne 12, 3) := by decide +kernel
theorem dX8_all_215 : decode cX8_all 215 = .ok (.iload 7, 2) := by decide +kernel
theorem dX8_all_217 : decode cX8_all 217 = .ok (.istore_n 3, 1) := by decide +kernel
theorem dX8_all_218 : decode cX8_all 218 = .ok (.iload 6, 2) := by decide +kernel
theorem dX8_all_220 : decode cX8_all 220 = .ok (.istore_n 2, 1) := by decide +kernel
theorem dX8_all_221 : decode cX8_all 221 = .ok (.goto 7, 3) := by decide +kernel
theorem dX8_all_224 : decode cX8_all 224 = .ok (.aload_n 0, 1) := by decide +kernel
theorem dX8_all_225 : decode cX8_all 225 = .ok (.invokevirtual 93, 3) := by decide +kernel
theorem dX8_all_228 : decode cX8_all 228 = .ok (.iinc 7 1, 3) := by decide +kernel
theorem dX8_all_231 : decode cX8_all 231 = .ok (.goto (-85), 3) := by decide +kernel
theorem dX8_all_234 : decode cX8_all 234 = .ok (.iinc 4 1, 3) := by decide +kernel
theorem dX8_all_237 : decode cX8_all 237 = .ok (.goto (-216), 3) := by decide +kernel
theorem dX8_all_240 : decode cX8_all 240 = .ok (.iload_n 2, 1) := by decide +kernel
theorem dX8_all_241 : decode cX8_all 241 = .ok (.ifCond .lt 8, 3) := by decide +kernel
theorem dX8_all_244 : decode cX8_all 244 = .ok (.iload_n 1, 1) := by decide +kernel
theorem dX8_all_245 : decode cX8_all 245 = .ok (.iconst 1, 1) := by decide +kernel
theorem dX8_all_246 : decode cX8_all 246 = .ok (.if_icmp .ne 7, 3) := by decide +kernel
theorem dX8_all_249 : decode cX8_all 249 = .ok (.iload_n 2, 1) := by decide +kernel
theorem dX8_all_250 : decode cX8_all 250 = .ok (.goto 4, 3) := by decide +kernel
theorem dX8_all_253 : decode cX8_all 253 = .ok (.iload_n 3, 1) := by decide +kernel
theorem dX8_all_254 : decode cX8_all 254 = .ok (.ireturn, 1) := by decide +kernel
theorem dX8_pairOf_0 : decode cX8_pairOf 0 = .ok (.iload_n 0, 1) := by decide +kernel
theorem dX8_pairOf_1 : decode cX8_pairOf 1 = .ok (.bipush 11, 2) := by decide +kernel
theorem dX8_pairOf_3 : decode cX8_pairOf 3 = .ok (.iload_n 0, 1) := by decide +kernel
theorem dX8_pairOf_4 : decode cX8_pairOf 4 = .ok (.isub, 1) := by decide +kernel
theorem dX8_pairOf_5 : decode cX8_pairOf 5 = .ok (.imul, 1) := by decide +kernel
theorem dX8_pairOf_6 : decode cX8_pairOf 6 = .ok (.iconst 2, 1) := by decide +kernel
theorem dX8_pairOf_7 : decode cX8_pairOf 7 = .ok (.idiv, 1) := by decide +kernel
theorem dX8_pairOf_8 : decode cX8_pairOf 8 = .ok (.iload_n 1, 1) := by decide +kernel
theorem dX8_pairOf_9 : decode cX8_pairOf 9 = .ok (.iadd, 1) := by decide +kernel
theorem dX8_pairOf_10 : decode cX8_pairOf 10 = .ok (.iload_n 0, 1) := by decide +kernel
theorem dX8_pairOf_11 : decode cX8_pairOf 11 = .ok (.isub, 1) := by decide +kernel
theorem dX8_pairOf_12 : decode cX8_pairOf 12 = .ok (.iconst 1, 1) := by decide +kernel
theorem dX8_pairOf_13 : decode cX8_pairOf 13 = .ok (.isub, 1) := by decide +kernel
theorem dX8_pairOf_14 : decode cX8_pairOf 14 = .ok (.ireturn, 1) := by decide +kernel
theorem dX8_waysIn_0 : decode cX8_waysIn 0 = .ok (.iconst 0, 1) := by decide +kernel
theorem dX8_waysIn_1 : decode cX8_waysIn 1 = .ok (.istore 4, 2) := by decide +kernel
theorem dX8_waysIn_3 : decode cX8_waysIn 3 = .ok (.iconst 0, 1) := by decide +kernel
theorem dX8_waysIn_4 : decode cX8_waysIn 4 = .ok (.istore 5, 2) := by decide +kernel
theorem dX8_waysIn_6 : decode cX8_waysIn 6 = .ok (.iload 5, 2) := by decide +kernel
theorem dX8_waysIn_8 : decode cX8_waysIn 8 = .ok (.sipush 4096, 3) := by decide +kernel
theorem dX8_waysIn_11 : decode cX8_waysIn 11 = .ok (.if_icmp .ge 223, 3) := by decide +kernel
theorem dX8_waysIn_14 : decode cX8_waysIn 14 = .ok (.iconst 1, 1) := by decide +kernel
theorem dX8_waysIn_15 : decode cX8_waysIn 15 = .ok (.istore 6, 2) := by decide +kernel
theorem dX8_waysIn_17 : decode cX8_waysIn 17 = .ok (.iconst 0, 1) := by decide +kernel
theorem dX8_waysIn_18 : decode cX8_waysIn 18 = .ok (.istore 7, 2) := by decide +kernel
theorem dX8_waysIn_20 : decode cX8_waysIn 20 = .ok (.iload 7, 2) := by decide +kernel
theorem dX8_waysIn_22 : decode cX8_waysIn 22 = .ok (.bipush 6, 2) := by decide +kernel
theorem dX8_waysIn_24 : decode cX8_waysIn 24 = .ok (.if_icmp .ge 189, 3) := by decide +kernel
theorem dX8_waysIn_27 : decode cX8_waysIn 27 = .ok (.iload 5, 2) := by decide +kernel
theorem dX8_waysIn_29 : decode cX8_waysIn 29 = .ok (.iconst 2, 1) := by decide +kernel
theorem dX8_waysIn_30 : decode cX8_waysIn 30 = .ok (.iload 7, 2) := by decide +kernel
theorem dX8_waysIn_32 : decode cX8_waysIn 32 = .ok (.imul, 1) := by decide +kernel
theorem dX8_waysIn_33 : decode cX8_waysIn 33 = .ok (.ishr, 1) := by decide +kernel
theorem dX8_waysIn_34 : decode cX8_waysIn 34 = .ok (.iconst 3, 1) := by decide +kernel
theorem dX8_waysIn_35 : decode cX8_waysIn 35 = .ok (.iand, 1) := by decide +kernel
theorem dX8_waysIn_36 : decode cX8_waysIn 36 = .ok (.istore 8, 2) := by decide +kernel
theorem dX8_waysIn_38 : decode cX8_waysIn 38 = .ok (.iload 6, 2) := by decide +kernel
theorem dX8_waysIn_40 : decode cX8_waysIn 40 = .ok (.ifCond .eq 33, 3) := by decide +kernel
theorem dX8_waysIn_43 : decode cX8_waysIn 43 = .ok (.aload_n 0, 1) := by decide +kernel
theorem dX8_waysIn_44 : decode cX8_waysIn 44 = .ok (.getfield 57, 3) := by decide +kernel
theorem dX8_waysIn_47 : decode cX8_waysIn 47 = .ok (.iload 7, 2) := by decide +kernel
theorem dX8_waysIn_49 : decode cX8_waysIn 49 = .ok (.invokestatic 65, 3) := by decide +kernel
theorem dX8_waysIn_52 : decode cX8_waysIn 52 = .ok (.ifCond .eq 12, 3) := by decide +kernel
theorem dX8_waysIn_55 : decode cX8_waysIn 55 = .ok (.iload 8, 2) := by decide +kernel
theorem dX8_waysIn_57 : decode cX8_waysIn 57 = .ok (.iload_n 3, 1) := by decide +kernel
theorem dX8_waysIn_58 : decode cX8_waysIn 58 = .ok (.if_icmp .ge 15, 3) := by decide +kernel
theorem dX8_waysIn_61 : decode cX8_waysIn 61 = .ok (.goto 8, 3) := by decide +kernel
theorem dX8_waysIn_64 : decode cX8_waysIn 64 = .ok (.iload 8, 2) := by decide +kernel
theorem dX8_waysIn_66 : decode cX8_waysIn 66 = .ok (.ifCond .ne 7, 3) := by decide +kernel
theorem dX8_waysIn_69 : decode cX8_waysIn 69 = .ok (.iconst 1, 1) := by decide +kernel
theorem dX8_waysIn_70 : decode cX8_waysIn 70 = .ok (.goto 4, 3) := by decide +kernel
theorem dX8_waysIn_73 : decode cX8_waysIn 73 = .ok (.iconst 0, 1) := by decide +kernel
theorem dX8_waysIn_74 : decode cX8_waysIn 74 = .ok (.istore 6, 2) := by decide +kernel
theorem dX8_waysIn_76 : decode cX8_waysIn 76 = .ok (.iload 7, 2) := by decide +kernel
theorem dX8_waysIn_78 : decode cX8_waysIn 78 = .ok (.iconst 1, 1) := by decide +kernel
theorem dX8_waysIn_79 : decode cX8_waysIn 79 = .ok (.iadd, 1) := by decide +kernel
theorem dX8_waysIn_80 : decode cX8_waysIn 80 = .ok (.istore 9, 2) := by decide +kernel
theorem dX8_waysIn_82 : decode cX8_waysIn 82 = .ok (.iload 9, 2) := by decide +kernel
theorem dX8_waysIn_84 : decode cX8_waysIn 84 = .ok (.bipush 6, 2) := by decide +kernel
theorem dX8_waysIn_86 : decode cX8_waysIn 86 = .ok (.if_icmp .ge 121, 3) := by decide +kernel
theorem dX8_waysIn_89 : decode cX8_waysIn 89 = .ok (.aload_n 0, 1) := by decide +kernel
theorem dX8_waysIn_90 : decode cX8_waysIn 90 = .ok (.getfield 57, 3) := by decide +kernel
theorem dX8_waysIn_93 : decode cX8_waysIn 93 = .ok (.iload 7, 2) := by decide +kernel
theorem dX8_waysIn_95 : decode cX8_waysIn 95 = .ok (.invokestatic 65, 3) := by decide +kernel
theorem dX8_waysIn_98 : decode cX8_waysIn 98 = .ok (.ifCond .eq 19, 3) := by decide +kernel
theorem dX8_waysIn_101 : decode cX8_waysIn 101 = .ok (.aload_n 0, 1) := by decide +kernel
theorem dX8_waysIn_102 : decode cX8_waysIn 102 = .ok (.getfield 57, 3) := by decide +kernel
theorem dX8_waysIn_105 : decode cX8_waysIn 105 = .ok (.iload 9, 2) := by decide +kernel
theorem dX8_waysIn_107 : decode cX8_waysIn 107 = .ok (.invokestatic 65, 3) := by decide +kernel
theorem dX8_waysIn_110 : decode cX8_waysIn 110 = .ok (.ifCond .eq 7, 3) := by decide +kernel
theorem dX8_waysIn_113 : decode cX8_waysIn 113 = .ok (.iconst 1, 1) := by decide +kernel
theorem dX8_waysIn_114 : decode cX8_waysIn 114 = .ok (.goto 4, 3) := by decide +kernel
theorem dX8_waysIn_117 : decode cX8_waysIn 117 = .ok (.iconst 0, 1) := by decide +kernel
theorem dX8_waysIn_118 : decode cX8_waysIn 118 = .ok (.istore 10, 2) := by decide +kernel
theorem dX8_waysIn_120 : decode cX8_waysIn 120 = .ok (.iload 8, 2) := by decide +kernel
theorem dX8_waysIn_122 : decode cX8_waysIn 122 = .ok (.iload 5, 2) := by decide +kernel
theorem dX8_waysIn_124 : decode cX8_waysIn 124 = .ok (.iconst 2, 1) := by decide +kernel
theorem dX8_waysIn_125 : decode cX8_waysIn 125 = .ok (.iload 9, 2) := by decide +kernel
theorem dX8_waysIn_127 : decode cX8_waysIn 127 = .ok (.imul, 1) := by decide +kernel
theorem dX8_waysIn_128 : decode cX8_waysIn 128 = .ok (.ishr, 1) := by decide +kernel
theorem dX8_waysIn_129 : decode cX8_waysIn 129 = .ok (.iconst 3, 1) := by decide +kernel
theorem dX8_waysIn_130 : decode cX8_waysIn 130 = .ok (.iand, 1) := by decide +kernel
theorem dX8_waysIn_131 : decode cX8_waysIn 131 = .ok (.if_icmp .ne 7, 3) := by decide +kernel
theorem dX8_waysIn_134 : decode cX8_waysIn 134 = .ok (.iconst 1, 1) := by decide +kernel
theorem dX8_waysIn_135 : decode cX8_waysIn 135 = .ok (.goto 4, 3) := by decide +kernel
theorem dX8_waysIn_138 : decode cX8_waysIn 138 = .ok (.iconst 0, 1) := by decide +kernel
theorem dX8_waysIn_139 : decode cX8_waysIn 139 = .ok (.istore 11, 2) := by decide +kernel
theorem dX8_waysIn_141 : decode cX8_waysIn 141 = .ok (.iload 6, 2) := by decide +kernel
theorem dX8_waysIn_143 : decode cX8_waysIn 143 = .ok (.ifCond .eq 55, 3) := by decide +kernel
theorem dX8_waysIn_146 : decode cX8_waysIn 146 = .ok (.iload 10, 2) := by decide +kernel
theorem dX8_waysIn_148 : decode cX8_waysIn 148 = .ok (.ifCond .eq 22, 3) := by decide +kernel
theorem dX8_waysIn_151 : decode cX8_waysIn 151 = .ok (.iload 11, 2) := by decide +kernel
theorem dX8_waysIn_153 : decode cX8_waysIn 153 = .ok (.ifCond .eq 17, 3) := by decide +kernel
theorem dX8_waysIn_156 : decode cX8_waysIn 156 = .ok (.iload_n 1, 1) := by decide +kernel
theorem dX8_waysIn_157 : decode cX8_waysIn 157 = .ok (.iload 7, 2) := by decide +kernel
theorem dX8_waysIn_159 : decode cX8_waysIn 159 = .ok (.iload 9, 2) := by decide +kernel
theorem dX8_waysIn_161 : decode cX8_waysIn 161 = .ok (.invokestatic 137, 3) := by decide +kernel
theorem dX8_waysIn_164 : decode cX8_waysIn 164 = .ok (.invokestatic 65, 3) := by decide +kernel
theorem dX8_waysIn_167 : decode cX8_waysIn 167 = .ok (.ifCond .ne 31, 3) := by decide +kernel
theorem dX8_waysIn_170 : decode cX8_waysIn 170 = .ok (.iload 10, 2) := by decide +kernel
theorem dX8_waysIn_172 : decode cX8_waysIn 172 = .ok (.ifCond .eq 22, 3) := by decide +kernel
theorem dX8_waysIn_175 : decode cX8_waysIn 175 = .ok (.iload 11, 2) := by decide +kernel
theorem dX8_waysIn_177 : decode cX8_waysIn 177 = .ok (.ifCond .ne 17, 3) := by decide +kernel
theorem dX8_waysIn_180 : decode cX8_waysIn 180 = .ok (.iload_n 2, 1) := by decide +kernel
theorem dX8_waysIn_181 : decode cX8_waysIn 181 = .ok (.iload 7, 2) := by decide +kernel
theorem dX8_waysIn_183 : decode cX8_waysIn 183 = .ok (.iload 9, 2) := by decide +kernel
theorem dX8_waysIn_185 : decode cX8_waysIn 185 = .ok (.invokestatic 137, 3) := by decide +kernel
theorem dX8_waysIn_188 : decode cX8_waysIn 188 = .ok (.invokestatic 65, 3) := by decide +kernel
theorem dX8_waysIn_191 : decode cX8_waysIn 191 = .ok (.ifCond .ne 7, 3) := by decide +kernel
theorem dX8_waysIn_194 : decode cX8_waysIn 194 = .ok (.iconst 1, 1) := by decide +kernel
theorem dX8_waysIn_195 : decode cX8_waysIn 195 = .ok (.goto 4, 3) := by decide +kernel
theorem dX8_waysIn_198 : decode cX8_waysIn 198 = .ok (.iconst 0, 1) := by decide +kernel
theorem dX8_waysIn_199 : decode cX8_waysIn 199 = .ok (.istore 6, 2) := by decide +kernel
theorem dX8_waysIn_201 : decode cX8_waysIn 201 = .ok (.iinc 9 1, 3) := by decide +kernel
theorem dX8_waysIn_204 : decode cX8_waysIn 204 = .ok (.goto (-122), 3) := by decide +kernel
theorem dX8_waysIn_207 : decode cX8_waysIn 207 = .ok (.iinc 7 1, 3) := by decide +kernel
theorem dX8_waysIn_210 : decode cX8_waysIn 210 = .ok (.goto (-190), 3) := by decide +kernel
theorem dX8_waysIn_213 : decode cX8_waysIn 213 = .ok (.iload 4, 2) := by decide +kernel
theorem dX8_waysIn_215 : decode cX8_waysIn 215 = .ok (.iload 6, 2) := by decide +kernel
theorem dX8_waysIn_217 : decode cX8_waysIn 217 = .ok (.ifCond .eq 7, 3) := by decide +kernel
theorem dX8_waysIn_220 : decode cX8_waysIn 220 = .ok (.iconst 1, 1) := by decide +kernel
theorem dX8_waysIn_221 : decode cX8_waysIn 221 = .ok (.goto 4, 3) := by decide +kernel
theorem dX8_waysIn_224 : decode cX8_waysIn 224 = .ok (.iconst 0, 1) := by decide +kernel
theorem dX8_waysIn_225 : decode cX8_waysIn 225 = .ok (.iadd, 1) := by decide +kernel
theorem dX8_waysIn_226 : decode cX8_waysIn 226 = .ok (.istore 4, 2) := by decide +kernel
theorem dX8_waysIn_228 : decode cX8_waysIn 228 = .ok (.iinc 5 1, 3) := by decide +kernel
theorem dX8_waysIn_231 : decode cX8_waysIn 231 = .ok (.goto (-225), 3) := by decide +kernel
theorem dX8_waysIn_234 : decode cX8_waysIn 234 = .ok (.iload 4, 2) := by decide +kernel
theorem dX8_waysIn_236 : decode cX8_waysIn 236 = .ok (.ireturn, 1) := by decide +kernel
theorem dX8_isPairs_0 : decode cX8_isPairs 0 = .ok (.iload_n 0, 1) := by decide +kernel
theorem dX8_isPairs_1 : decode cX8_isPairs 1 = .ok (.iconst 0, 1) := by decide +kernel
theorem dX8_isPairs_2 : decode cX8_isPairs 2 = .ok (.sipush 32767, 3) := by decide +kernel
theorem dX8_isPairs_5 : decode cX8_isPairs 5 = .ok (.invokestatic 61, 3) := by decide +kernel
theorem dX8_isPairs_8 : decode cX8_isPairs 8 = .ok (.ireturn, 1) := by decide +kernel
theorem dX8_ways_0 : decode cX8_ways 0 = .ok (.iload_n 1, 1) := by decide +kernel
theorem dX8_ways_1 : decode cX8_ways 1 = .ok (.invokestatic 140, 3) := by decide +kernel
theorem dX8_ways_4 : decode cX8_ways 4 = .ok (.ifCond .eq 29, 3) := by decide +kernel
theorem dX8_ways_7 : decode cX8_ways 7 = .ok (.iload_n 2, 1) := by decide +kernel
theorem dX8_ways_8 : decode cX8_ways 8 = .ok (.invokestatic 140, 3) := by decide +kernel
theorem dX8_ways_11 : decode cX8_ways 11 = .ok (.ifCond .eq 22, 3) := by decide +kernel
theorem dX8_ways_14 : decode cX8_ways 14 = .ok (.iload_n 3, 1) := by decide +kernel
theorem dX8_ways_15 : decode cX8_ways 15 = .ok (.iconst 1, 1) := by decide +kernel
theorem dX8_ways_16 : decode cX8_ways 16 = .ok (.iconst 4, 1) := by decide +kernel
theorem dX8_ways_17 : decode cX8_ways 17 = .ok (.invokestatic 61, 3) := by decide +kernel
theorem dX8_ways_20 : decode cX8_ways 20 = .ok (.ifCond .eq 13, 3) := by decide +kernel
theorem dX8_ways_23 : decode cX8_ways 23 = .ok (.aload_n 0, 1) := by decide +kernel
theorem dX8_ways_24 : decode cX8_ways 24 = .ok (.iload_n 1, 1) := by decide +kernel
theorem dX8_ways_25 : decode cX8_ways 25 = .ok (.iload_n 2, 1) := by decide +kernel
theorem dX8_ways_26 : decode cX8_ways 26 = .ok (.iload_n 3, 1) := by decide +kernel
theorem dX8_ways_27 : decode cX8_ways 27 = .ok (.invokevirtual 143, 3) := by decide +kernel
theorem dX8_ways_30 : decode cX8_ways 30 = .ok (.goto 5, 3) := by decide +kernel
theorem dX8_ways_33 : decode cX8_ways 33 = .ok (.bipush (-2), 2) := by decide +kernel
theorem dX8_ways_35 : decode cX8_ways 35 = .ok (.ireturn, 1) := by decide +kernel
theorem dX8_rooms_0 : decode cX8_rooms 0 = .ok (.iload_n 1, 1) := by decide +kernel
theorem dX8_rooms_1 : decode cX8_rooms 1 = .ok (.invokestatic 140, 3) := by decide +kernel
theorem dX8_rooms_4 : decode cX8_rooms 4 = .ok (.ifCond .eq 10, 3) := by decide +kernel
theorem dX8_rooms_7 : decode cX8_rooms 7 = .ok (.iload_n 2, 1) := by decide +kernel
theorem dX8_rooms_8 : decode cX8_rooms 8 = .ok (.invokestatic 140, 3) := by decide +kernel
theorem dX8_rooms_11 : decode cX8_rooms 11 = .ok (.ifCond .ne 6, 3) := by decide +kernel
theorem dX8_rooms_14 : decode cX8_rooms 14 = .ok (.bipush (-2), 2) := by decide +kernel
theorem dX8_rooms_16 : decode cX8_rooms 16 = .ok (.ireturn, 1) := by decide +kernel
theorem dX8_rooms_17 : decode cX8_rooms 17 = .ok (.iconst 1, 1) := by decide +kernel
theorem dX8_rooms_18 : decode cX8_rooms 18 = .ok (.istore_n 3, 1) := by decide +kernel
theorem dX8_rooms_19 : decode cX8_rooms 19 = .ok (.iload_n 3, 1) := by decide +kernel
theorem dX8_rooms_20 : decode cX8_rooms 20 = .ok (.iconst 5, 1) := by decide +kernel
theorem dX8_rooms_21 : decode cX8_rooms 21 = .ok (.if_icmp .ge 21, 3) := by decide +kernel
theorem dX8_rooms_24 : decode cX8_rooms 24 = .ok (.aload_n 0, 1) := by decide +kernel
theorem dX8_rooms_25 : decode cX8_rooms 25 = .ok (.iload_n 1, 1) := by decide +kernel
theorem dX8_rooms_26 : decode cX8_rooms 26 = .ok (.iload_n 2, 1) := by decide +kernel
theorem dX8_rooms_27 : decode cX8_rooms 27 = .ok (.iload_n 3, 1) := by decide +kernel
theorem dX8_rooms_28 : decode cX8_rooms 28 = .ok (.invokevirtual 143, 3) := by decide +kernel
theorem dX8_rooms_31 : decode cX8_rooms 31 = .ok (.ifCond .le 5, 3) := by decide +kernel
theorem dX8_rooms_34 : decode cX8_rooms 34 = .ok (.iload_n 3, 1) := by decide +kernel
theorem dX8_rooms_35 : decode cX8_rooms 35 = .ok (.ireturn, 1) := by decide +kernel
theorem dX8_rooms_36 : decode cX8_rooms 36 = .ok (.iinc 3 1, 3) := by decide +kernel
theorem dX8_rooms_39 : decode cX8_rooms 39 = .ok (.goto (-20), 3) := by decide +kernel
theorem dX8_rooms_42 : decode cX8_rooms 42 = .ok (.bipush (-6), 2) := by decide +kernel
theorem dX8_rooms_44 : decode cX8_rooms 44 = .ok (.ireturn, 1) := by decide +kernel
theorem dX8_laySeats_0 : decode cX8_laySeats 0 = .ok (.iconst 5, 1) := by decide +kernel
theorem dX8_laySeats_1 : decode cX8_laySeats 1 = .ok (.istore_n 1, 1) := by decide +kernel
theorem dX8_laySeats_2 : decode cX8_laySeats 2 = .ok (.iload_n 1, 1) := by decide +kernel
theorem dX8_laySeats_3 : decode cX8_laySeats 3 = .ok (.ifCond .lt 130, 3) := by decide +kernel
theorem dX8_laySeats_6 : decode cX8_laySeats 6 = .ok (.iconst 0, 1) := by decide +kernel
theorem dX8_laySeats_7 : decode cX8_laySeats 7 = .ok (.istore_n 2, 1) := by decide +kernel
theorem dX8_laySeats_8 : decode cX8_laySeats 8 = .ok (.iload_n 2, 1) := by decide +kernel
theorem dX8_laySeats_9 : decode cX8_laySeats 9 = .ok (.bipush 64, 2) := by decide +kernel
theorem dX8_laySeats_11 : decode cX8_laySeats 11 = .ok (.if_icmp .ge 116, 3) := by decide +kernel
theorem dX8_laySeats_14 : decode cX8_laySeats 14 = .ok (.aload_n 0, 1) := by decide +kernel
theorem dX8_laySeats_15 : decode cX8_laySeats 15 = .ok (.getfield 37, 3) := by decide +kernel
theorem dX8_laySeats_18 : decode cX8_laySeats 18 = .ok (.bipush 64, 2) := by decide +kernel
theorem dX8_laySeats_20 : decode cX8_laySeats 20 = .ok (.iload_n 1, 1) := by decide +kernel
theorem dX8_laySeats_21 : decode cX8_laySeats 21 = .ok (.imul, 1) := by decide +kernel
theorem dX8_laySeats_22 : decode cX8_laySeats 22 = .ok (.bipush 64, 2) := by decide +kernel
theorem dX8_laySeats_24 : decode cX8_laySeats 24 = .ok (.iadd, 1) := by decide +kernel
theorem dX8_laySeats_25 : decode cX8_laySeats 25 = .ok (.iload_n 2, 1) := by decide +kernel
theorem dX8_laySeats_26 : decode cX8_laySeats 26 = .ok (.iadd, 1) := by decide +kernel
theorem dX8_laySeats_27 : decode cX8_laySeats 27 = .ok (.iaload, 1) := by decide +kernel
theorem dX8_laySeats_28 : decode cX8_laySeats 28 = .ok (.istore_n 3, 1) := by decide +kernel
theorem dX8_laySeats_29 : decode cX8_laySeats 29 = .ok (.iconst 0, 1) := by decide +kernel
theorem dX8_laySeats_30 : decode cX8_laySeats 30 = .ok (.istore 4, 2) := by decide +kernel
theorem dX8_laySeats_32 : decode cX8_laySeats 32 = .ok (.iload 4, 2) := by decide +kernel
theorem dX8_laySeats_34 : decode cX8_laySeats 34 = .ok (.bipush 6, 2) := by decide +kernel
theorem dX8_laySeats_36 : decode cX8_laySeats 36 = .ok (.if_icmp .ge 73, 3) := by decide +kernel
theorem dX8_laySeats_39 : decode cX8_laySeats 39 = .ok (.aload_n 0, 1) := by decide +kernel
theorem dX8_laySeats_40 : decode cX8_laySeats 40 = .ok (.getfield 22, 3) := by decide +kernel
theorem dX8_laySeats_43 : decode cX8_laySeats 43 = .ok (.iload_n 1, 1) := by decide +kernel
theorem dX8_laySeats_44 : decode cX8_laySeats 44 = .ok (.iaload, 1) := by decide +kernel
theorem dX8_laySeats_45 : decode cX8_laySeats 45 = .ok (.aload_n 0, 1) := by decide +kernel
theorem dX8_laySeats_46 : decode cX8_laySeats 46 = .ok (.getfield 57, 3) := by decide +kernel
theorem dX8_laySeats_49 : decode cX8_laySeats 49 = .ok (.iand, 1) := by decide +kernel
theorem dX8_laySeats_50 : decode cX8_laySeats 50 = .ok (.iload 4, 2) := by decide +kernel
theorem dX8_laySeats_52 : decode cX8_laySeats 52 = .ok (.invokestatic 65, 3) := by decide +kernel
theorem dX8_laySeats_55 : decode cX8_laySeats 55 = .ok (.ifCond .eq 48, 3) := by decide +kernel
theorem dX8_laySeats_58 : decode cX8_laySeats 58 = .ok (.iload_n 2, 1) := by decide +kernel
theorem dX8_laySeats_59 : decode cX8_laySeats 59 = .ok (.iload 4, 2) := by decide +kernel
theorem dX8_laySeats_61 : decode cX8_laySeats 61 = .ok (.invokestatic 65, 3) := by decide +kernel
theorem dX8_laySeats_64 : decode cX8_laySeats 64 = .ok (.ifCond .ne 39, 3) := by decide +kernel
theorem dX8_laySeats_67 : decode cX8_laySeats 67 = .ok (.iconst 1, 1) := by decide +kernel
theorem dX8_laySeats_68 : decode cX8_laySeats 68 = .ok (.aload_n 0, 1) := by decide +kernel
theorem dX8_laySeats_69 : decode cX8_laySeats 69 = .ok (.getfield 37, 3) := by decide +kernel
theorem dX8_laySeats_72 : decode cX8_laySeats 72 = .ok (.bipush 64, 2) := by decide +kernel
theorem dX8_laySeats_74 : decode cX8_laySeats 74 = .ok (.iload_n 1, 1) := by decide +kernel
theorem dX8_laySeats_75 : decode cX8_laySeats 75 = .ok (.imul, 1) := by decide +kernel
theorem dX8_laySeats_76 : decode cX8_laySeats 76 = .ok (.bipush 64, 2) := by decide +kernel
theorem dX8_laySeats_78 : decode cX8_laySeats 78 = .ok (.iadd, 1) := by decide +kernel
theorem dX8_laySeats_79 : decode cX8_laySeats 79 = .ok (.iload_n 2, 1) := by decide +kernel
theorem dX8_laySeats_80 : decode cX8_laySeats 80 = .ok (.iconst 1, 1) := by decide +kernel
theorem dX8_laySeats_81 : decode cX8_laySeats 81 = .ok (.iload 4, 2) := by decide +kernel
theorem dX8_laySeats_83 : decode cX8_laySeats 83 = .ok (.ishl, 1) := by decide +kernel
theorem dX8_laySeats_84 : decode cX8_laySeats 84 = .ok (.ior, 1) := by decide +kernel
theorem dX8_laySeats_85 : decode cX8_laySeats 85 = .ok (.iadd, 1) := by decide +kernel
theorem dX8_laySeats_86 : decode cX8_laySeats 86 = .ok (.iaload, 1) := by decide +kernel
theorem dX8_laySeats_87 : decode cX8_laySeats 87 = .ok (.iadd, 1) := by decide +kernel
theorem dX8_laySeats_88 : decode cX8_laySeats 88 = .ok (.istore 5, 2) := by decide +kernel
theorem dX8_laySeats_90 : decode cX8_laySeats 90 = .ok (.iload 5, 2) := by decide +kernel
theorem dX8_laySeats_92 : decode cX8_laySeats 92 = .ok (.iload_n 3, 1) := by decide +kernel
theorem dX8_laySeats_93 : decode cX8_laySeats 93 = .ok (.if_icmp .le 8, 3) := by decide +kernel
theorem dX8_laySeats_96 : decode cX8_laySeats 96 = .ok (.iload 5, 2) := by decide +kernel
theorem dX8_laySeats_98 : decode cX8_laySeats 98 = .ok (.goto 4, 3) := by decide +kernel
theorem dX8_laySeats_101 : decode cX8_laySeats 101 = .ok (.iload_n 3, 1) := by decide +kernel
theorem dX8_laySeats_102 : decode cX8_laySeats 102 = .ok (.istore_n 3, 1) := by decide +kernel
theorem dX8_laySeats_103 : decode cX8_laySeats 103 = .ok (.iinc 4 1, 3) := by decide +kernel
theorem dX8_laySeats_106 : decode cX8_laySeats 106 = .ok (.goto (-74), 3) := by decide +kernel
theorem dX8_laySeats_109 : decode cX8_laySeats 109 = .ok (.aload_n 0, 1) := by decide +kernel
theorem dX8_laySeats_110 : decode cX8_laySeats 110 = .ok (.getfield 37, 3) := by decide +kernel
theorem dX8_laySeats_113 : decode cX8_laySeats 113 = .ok (.bipush 64, 2) := by decide +kernel
theorem dX8_laySeats_115 : decode cX8_laySeats 115 = .ok (.iload_n 1, 1) := by decide +kernel
theorem dX8_laySeats_116 : decode cX8_laySeats 116 = .ok (.imul, 1) := by decide +kernel
theorem dX8_laySeats_117 : decode cX8_laySeats 117 = .ok (.iload_n 2, 1) := by decide +kernel
theorem dX8_laySeats_118 : decode cX8_laySeats 118 = .ok (.iadd, 1) := by decide +kernel
theorem dX8_laySeats_119 : decode cX8_laySeats 119 = .ok (.iload_n 3, 1) := by decide +kernel
theorem dX8_laySeats_120 : decode cX8_laySeats 120 = .ok (.iastore, 1) := by decide +kernel
theorem dX8_laySeats_121 : decode cX8_laySeats 121 = .ok (.iinc 2 1, 3) := by decide +kernel
theorem dX8_laySeats_124 : decode cX8_laySeats 124 = .ok (.goto (-116), 3) := by decide +kernel
theorem dX8_laySeats_127 : decode cX8_laySeats 127 = .ok (.iinc 1 (-1), 3) := by decide +kernel
theorem dX8_laySeats_130 : decode cX8_laySeats 130 = .ok (.goto (-128), 3) := by decide +kernel
theorem dX8_laySeats_133 : decode cX8_laySeats 133 = .ok (.return_, 1) := by decide +kernel
theorem dX8_seats_0 : decode cX8_seats 0 = .ok (.iload_n 1, 1) := by decide +kernel
theorem dX8_seats_1 : decode cX8_seats 1 = .ok (.iconst (-1), 1) := by decide +kernel
theorem dX8_seats_2 : decode cX8_seats 2 = .ok (.iconst 5, 1) := by decide +kernel
theorem dX8_seats_3 : decode cX8_seats 3 = .ok (.invokestatic 61, 3) := by decide +kernel
theorem dX8_seats_6 : decode cX8_seats 6 = .ok (.ifCond .ne 5, 3) := by decide +kernel
theorem dX8_seats_9 : decode cX8_seats 9 = .ok (.iconst (-1), 1) := by decide +kernel
theorem dX8_seats_10 : decode cX8_seats 10 = .ok (.ireturn, 1) := by decide +kernel
theorem dX8_seats_11 : decode cX8_seats 11 = .ok (.aload_n 0, 1) := by decide +kernel
theorem dX8_seats_12 : decode cX8_seats 12 = .ok (.invokevirtual 147, 3) := by decide +kernel
theorem dX8_seats_15 : decode cX8_seats 15 = .ok (.iconst 0, 1) := by decide +kernel
theorem dX8_seats_16 : decode cX8_seats 16 = .ok (.istore_n 2, 1) := by decide +kernel
theorem dX8_seats_17 : decode cX8_seats 17 = .ok (.aload_n 0, 1) := by decide +kernel
theorem dX8_seats_18 : decode cX8_seats 18 = .ok (.getfield 37, 3) := by decide +kernel
theorem dX8_seats_21 : decode cX8_seats 21 = .ok (.iconst 0, 1) := by decide +kernel
theorem dX8_seats_22 : decode cX8_seats 22 = .ok (.iaload, 1) := by decide +kernel
theorem dX8_seats_23 : decode cX8_seats 23 = .ok (.istore_n 3, 1) := by decide +kernel
theorem dX8_seats_24 : decode cX8_seats 24 = .ok (.iconst 0, 1) := by decide +kernel
theorem dX8_seats_25 : decode cX8_seats 25 = .ok (.istore 4, 2) := by decide +kernel
theorem dX8_seats_27 : decode cX8_seats 27 = .ok (.iload 4, 2) := by decide +kernel
theorem dX8_seats_29 : decode cX8_seats 29 = .ok (.iload_n 1, 1) := by decide +kernel
theorem dX8_seats_30 : decode cX8_seats 30 = .ok (.if_icmp .gt 125, 3) := by decide +kernel
theorem dX8_seats_33 : decode cX8_seats 33 = .ok (.bipush (-6), 2) := by decide +kernel
theorem dX8_seats_35 : decode cX8_seats 35 = .ok (.istore_n 3, 1) := by decide +kernel
theorem dX8_seats_36 : decode cX8_seats 36 = .ok (.iconst 5, 1) := by decide +kernel
theorem dX8_seats_37 : decode cX8_seats 37 = .ok (.istore 5, 2) := by decide +kernel
theorem dX8_seats_39 : decode cX8_seats 39 = .ok (.iload 5, 2) := by decide +kernel
theorem dX8_seats_41 : decode cX8_seats 41 = .ok (.ifCond .lt 94, 3) := by decide +kernel
theorem dX8_seats_44 : decode cX8_seats 44 = .ok (.aload_n 0, 1) := by decide +kernel
theorem dX8_seats_45 : decode cX8_seats 45 = .ok (.getfield 22, 3) := by decide +kernel
theorem dX8_seats_48 : decode cX8_seats 48 = .ok (.iload 4, 2) := by decide +kernel
theorem dX8_seats_50 : decode cX8_seats 50 = .ok (.iaload, 1) := by decide +kernel
theorem dX8_seats_51 : decode cX8_seats 51 = .ok (.aload_n 0, 1) := by decide +kernel
theorem dX8_seats_52 : decode cX8_seats 52 = .ok (.getfield 57, 3) := by decide +kernel
theorem dX8_seats_55 : decode cX8_seats 55 = .ok (.iand, 1) := by decide +kernel
theorem dX8_seats_56 : decode cX8_seats 56 = .ok (.iload 5, 2) := by decide +kernel
theorem dX8_seats_58 : decode cX8_seats 58 = .ok (.invokestatic 65, 3) := by decide +kernel
theorem dX8_seats_61 : decode cX8_seats 61 = .ok (.ifCond .eq 53, 3) := by decide +kernel
theorem dX8_seats_64 : decode cX8_seats 64 = .ok (.iload_n 2, 1) := by decide +kernel
theorem dX8_seats_65 : decode cX8_seats 65 = .ok (.iload 5, 2) := by decide +kernel
theorem dX8_seats_67 : decode cX8_seats 67 = .ok (.invokestatic 65, 3) := by decide +kernel
theorem dX8_seats_70 : decode cX8_seats 70 = .ok (.ifCond .ne 44, 3) := by decide +kernel
theorem dX8_seats_73 : decode cX8_seats 73 = .ok (.iconst 1, 1) := by decide +kernel
theorem dX8_seats_74 : decode cX8_seats 74 = .ok (.aload_n 0, 1) := by decide +kernel
theorem dX8_seats_75 : decode cX8_seats 75 = .ok (.getfield 37, 3) := by decide +kernel
theorem dX8_seats_78 : decode cX8_seats 78 = .ok (.bipush 64, 2) := by decide +kernel
theorem dX8_seats_80 : decode cX8_seats 80 = .ok (.iload 4, 2) := by decide +kernel
theorem dX8_seats_82 : decode cX8_seats 82 = .ok (.imul, 1) := by decide +kernel
theorem dX8_seats_83 : decode cX8_seats 83 = .ok (.bipush 64, 2) := by decide +kernel
theorem dX8_seats_85 : decode cX8_seats 85 = .ok (.iadd, 1) := by decide +kernel
theorem dX8_seats_86 : decode cX8_seats 86 = .ok (.iload_n 2, 1) := by decide +kernel
theorem dX8_seats_87 : decode cX8_seats 87 = .ok (.iconst 1, 1) := by decide +kernel
theorem dX8_seats_88 : decode cX8_seats 88 = .ok (.iload 5, 2) := by decide +kernel
theorem dX8_seats_90 : decode cX8_seats 90 = .ok (.ishl, 1) := by decide +kernel
theorem dX8_seats_91 : decode cX8_seats 91 = .ok (.ior, 1) := by decide +kernel
theorem dX8_seats_92 : decode cX8_seats 92 = .ok (.iadd, 1) := by decide +kernel
theorem dX8_seats_93 : decode cX8_seats 93 = .ok (.iaload, 1) := by decide +kernel
theorem dX8_seats_94 : decode cX8_seats 94 = .ok (.iadd, 1) := by decide +kernel
theorem dX8_seats_95 : decode cX8_seats 95 = .ok (.aload_n 0, 1) := by decide +kernel
theorem dX8_seats_96 : decode cX8_seats 96 = .ok (.getfield 37, 3) := by decide +kernel
theorem dX8_seats_99 : decode cX8_seats 99 = .ok (.bipush 64, 2) := by decide +kernel
theorem dX8_seats_101 : decode cX8_seats 101 = .ok (.iload 4, 2) := by decide +kernel
theorem dX8_seats_103 : decode cX8_seats 103 = .ok (.imul, 1) := by decide +kernel
theorem dX8_seats_104 : decode cX8_seats 104 = .ok (.iload_n 2, 1) := by decide +kernel
theorem dX8_seats_105 : decode cX8_seats 105 = .ok (.iadd, 1) := by decide +kernel
theorem dX8_seats_106 : decode cX8_seats 106 = .ok (.iaload, 1) := by decide +kernel
theorem dX8_seats_107 : decode cX8_seats 107 = .ok (.if_icmp .ne 7, 3) := by decide +kernel
theorem dX8_seats_110 : decode cX8_seats 110 = .ok (.iconst 1, 1) := by decide +kernel
theorem dX8_seats_111 : decode cX8_seats 111 = .ok (.goto 4, 3) := by decide +kernel
theorem dX8_seats_114 : decode cX8_seats 114 = .ok (.iconst 0, 1) := by decide +kernel
theorem dX8_seats_115 : decode cX8_seats 115 = .ok (.istore 6, 2) := by decide +kernel
theorem dX8_seats_117 : decode cX8_seats 117 = .ok (.iload 6, 2) := by decide +kernel
theorem dX8_seats_119 : decode cX8_seats 119 = .ok (.ifCond .eq 8, 3) := by decide +kernel
theorem dX8_seats_122 : decode cX8_seats 122 = .ok (.iload 5, 2) := by decide +kernel
theorem dX8_seats_124 : decode cX8_seats 124 = .ok (.goto 4, 3) := by decide +kernel
theorem dX8_seats_127 : decode cX8_seats 127 = .ok (.iload_n 3, 1) := by decide +kernel
theorem dX8_seats_128 : decode cX8_seats 128 = .ok (.istore_n 3, 1) := by decide +kernel
theorem dX8_seats_129 : decode cX8_seats 129 = .ok (.iinc 5 (-1), 3) := by decide +kernel
theorem dX8_seats_132 : decode cX8_seats 132 = .ok (.goto (-93), 3) := by decide +kernel
theorem dX8_seats_135 : decode cX8_seats 135 = .ok (.iload_n 2, 1) := by decide +kernel
theorem dX8_seats_136 : decode cX8_seats 136 = .ok (.iload_n 3, 1) := by decide +kernel
theorem dX8_seats_137 : decode cX8_seats 137 = .ok (.ifCond .ge 7, 3) := by decide +kernel
theorem dX8_seats_140 : decode cX8_seats 140 = .ok (.iconst 0, 1) := by decide +kernel
theorem dX8_seats_141 : decode cX8_seats 141 = .ok (.goto 6, 3) := by decide +kernel
theorem dX8_seats_144 : decode cX8_seats 144 = .ok (.iconst 1, 1) := by decide +kernel
theorem dX8_seats_145 : decode cX8_seats 145 = .ok (.iload_n 3, 1) := by decide +kernel
theorem dX8_seats_146 : decode cX8_seats 146 = .ok (.ishl, 1) := by decide +kernel
theorem dX8_seats_147 : decode cX8_seats 147 = .ok (.ior, 1) := by decide +kernel
theorem dX8_seats_148 : decode cX8_seats 148 = .ok (.istore_n 2, 1) := by decide +kernel
theorem dX8_seats_149 : decode cX8_seats 149 = .ok (.iinc 4 1, 3) := by decide +kernel
theorem dX8_seats_152 : decode cX8_seats 152 = .ok (.goto (-125), 3) := by decide +kernel
theorem dX8_seats_155 : decode cX8_seats 155 = .ok (.iload_n 3, 1) := by decide +kernel
theorem dX8_seats_156 : decode cX8_seats 156 = .ok (.ireturn, 1) := by decide +kernel
theorem dX8_seen_0 : decode cX8_seen 0 = .ok (.iload_n 1, 1) := by decide +kernel
theorem dX8_seen_1 : decode cX8_seen 1 = .ok (.iconst 0, 1) := by decide +kernel
theorem dX8_seen_2 : decode cX8_seen 2 = .ok (.bipush 20, 2) := by decide +kernel
theorem dX8_seen_4 : decode cX8_seen 4 = .ok (.invokestatic 61, 3) := by decide +kernel
theorem dX8_seen_7 : decode cX8_seen 7 = .ok (.ifCond .eq 23, 3) := by decide +kernel
theorem dX8_seen_10 : decode cX8_seen 10 = .ok (.iload_n 2, 1) := by decide +kernel
theorem dX8_seen_11 : decode cX8_seen 11 = .ok (.iconst 1, 1) := by decide +kernel
theorem dX8_seen_12 : decode cX8_seen 12 = .ok (.bipush 9, 2) := by decide +kernel
theorem dX8_seen_14 : decode cX8_seen 14 = .ok (.invokestatic 61, 3) := by decide +kernel
theorem dX8_seen_17 : decode cX8_seen 17 = .ok (.ifCond .eq 13, 3) := by decide +kernel
theorem dX8_seen_20 : decode cX8_seen 20 = .ok (.iload_n 3, 1) := by decide +kernel
theorem dX8_seen_21 : decode cX8_seen 21 = .ok (.iconst 0, 1) := by decide +kernel
theorem dX8_seen_22 : decode cX8_seen 22 = .ok (.bipush 20, 2) := by decide +kernel
theorem dX8_seen_24 : decode cX8_seen 24 = .ok (.invokestatic 61, 3) := by decide +kernel
theorem dX8_seen_27 : decode cX8_seen 27 = .ok (.ifCond .ne 6, 3) := by decide +kernel
theorem dX8_seen_30 : decode cX8_seen 30 = .ok (.bipush (-2), 2) := by decide +kernel
theorem dX8_seen_32 : decode cX8_seen 32 = .ok (.ireturn, 1) := by decide +kernel
theorem dX8_seen_33 : decode cX8_seen 33 = .ok (.aload_n 0, 1) := by decide +kernel
theorem dX8_seen_34 : decode cX8_seen 34 = .ok (.getfield 150, 3) := by decide +kernel
theorem dX8_seen_37 : decode cX8_seen 37 = .ok (.bipush 8, 2) := by decide +kernel
theorem dX8_seen_39 : decode cX8_seen 39 = .ok (.if_icmp .ne 6, 3) := by decide +kernel
theorem dX8_seen_42 : decode cX8_seen 42 = .ok (.bipush (-4), 2) := by decide +kernel
theorem dX8_seen_44 : decode cX8_seen 44 = .ok (.ireturn, 1) := by decide +kernel
theorem dX8_seen_45 : decode cX8_seen 45 = .ok (.aload_n 0, 1) := by decide +kernel
theorem dX8_seen_46 : decode cX8_seen 46 = .ok (.getfield 25, 3) := by decide +kernel
theorem dX8_seen_49 : decode cX8_seen 49 = .ok (.iconst 3, 1) := by decide +kernel
theorem dX8_seen_50 : decode cX8_seen 50 = .ok (.aload_n 0, 1) := by decide +kernel
theorem dX8_seen_51 : decode cX8_seen 51 = .ok (.getfield 150, 3) := by decide +kernel
theorem dX8_seen_54 : decode cX8_seen 54 = .ok (.imul, 1) := by decide +kernel
theorem dX8_seen_55 : decode cX8_seen 55 = .ok (.iload_n 1, 1) := by decide +kernel
theorem dX8_seen_56 : decode cX8_seen 56 = .ok (.iastore, 1) := by decide +kernel
theorem dX8_seen_57 : decode cX8_seen 57 = .ok (.aload_n 0, 1) := by decide +kernel
theorem dX8_seen_58 : decode cX8_seen 58 = .ok (.getfield 25, 3) := by decide +kernel
theorem dX8_seen_61 : decode cX8_seen 61 = .ok (.iconst 3, 1) := by decide +kernel
theorem dX8_seen_62 : decode cX8_seen 62 = .ok (.aload_n 0, 1) := by decide +kernel
theorem dX8_seen_63 : decode cX8_seen 63 = .ok (.getfield 150, 3) := by decide +kernel
theorem dX8_seen_66 : decode cX8_seen 66 = .ok (.imul, 1) := by decide +kernel
theorem dX8_seen_67 : decode cX8_seen 67 = .ok (.iconst 1, 1) := by decide +kernel
theorem dX8_seen_68 : decode cX8_seen 68 = .ok (.iadd, 1) := by decide +kernel
theorem dX8_seen_69 : decode cX8_seen 69 = .ok (.iload_n 2, 1) := by decide +kernel
theorem dX8_seen_70 : decode cX8_seen 70 = .ok (.iastore, 1) := by decide +kernel
theorem dX8_seen_71 : decode cX8_seen 71 = .ok (.aload_n 0, 1) := by decide +kernel
theorem dX8_seen_72 : decode cX8_seen 72 = .ok (.getfield 25, 3) := by decide +kernel
theorem dX8_seen_75 : decode cX8_seen 75 = .ok (.iconst 3, 1) := by decide +kernel
theorem dX8_seen_76 : decode cX8_seen 76 = .ok (.aload_n 0, 1) := by decide +kernel
theorem dX8_seen_77 : decode cX8_seen 77 = .ok (.getfield 150, 3) := by decide +kernel
theorem dX8_seen_80 : decode cX8_seen 80 = .ok (.imul, 1) := by decide +kernel
theorem dX8_seen_81 : decode cX8_seen 81 = .ok (.iconst 2, 1) := by decide +kernel
theorem dX8_seen_82 : decode cX8_seen 82 = .ok (.iadd, 1) := by decide +kernel
theorem dX8_seen_83 : decode cX8_seen 83 = .ok (.iload_n 3, 1) := by decide +kernel
theorem dX8_seen_84 : decode cX8_seen 84 = .ok (.iastore, 1) := by decide +kernel
theorem dX8_seen_85 : decode cX8_seen 85 = .ok (.aload_n 0, 1) := by decide +kernel
theorem dX8_seen_86 : decode cX8_seen 86 = .ok (.dup, 1) := by decide +kernel
theorem dX8_seen_87 : decode cX8_seen 87 = .ok (.getfield 150, 3) := by decide +kernel
theorem dX8_seen_90 : decode cX8_seen 90 = .ok (.iconst 1, 1) := by decide +kernel
theorem dX8_seen_91 : decode cX8_seen 91 = .ok (.iadd, 1) := by decide +kernel
theorem dX8_seen_92 : decode cX8_seen 92 = .ok (.putfield 150, 3) := by decide +kernel
theorem dX8_seen_95 : decode cX8_seen 95 = .ok (.aload_n 0, 1) := by decide +kernel
theorem dX8_seen_96 : decode cX8_seen 96 = .ok (.getfield 150, 3) := by decide +kernel
theorem dX8_seen_99 : decode cX8_seen 99 = .ok (.ireturn, 1) := by decide +kernel
theorem dX8_forget_0 : decode cX8_forget 0 = .ok (.aload_n 0, 1) := by decide +kernel
theorem dX8_forget_1 : decode cX8_forget 1 = .ok (.getfield 150, 3) := by decide +kernel
theorem dX8_forget_4 : decode cX8_forget 4 = .ok (.istore_n 1, 1) := by decide +kernel
theorem dX8_forget_5 : decode cX8_forget 5 = .ok (.aload_n 0, 1) := by decide +kernel
theorem dX8_forget_6 : decode cX8_forget 6 = .ok (.iconst 0, 1) := by decide +kernel
theorem dX8_forget_7 : decode cX8_forget 7 = .ok (.putfield 150, 3) := by decide +kernel
theorem dX8_forget_10 : decode cX8_forget 10 = .ok (.iload_n 1, 1) := by decide +kernel
theorem dX8_forget_11 : decode cX8_forget 11 = .ok (.ireturn, 1) := by decide +kernel
theorem dX8_fits_0 : decode cX8_fits 0 = .ok (.iconst 1, 1) := by decide +kernel
theorem dX8_fits_1 : decode cX8_fits 1 = .ok (.istore_n 2, 1) := by decide +kernel
theorem dX8_fits_2 : decode cX8_fits 2 = .ok (.iconst 0, 1) := by decide +kernel
theorem dX8_fits_3 : decode cX8_fits 3 = .ok (.istore_n 3, 1) := by decide +kernel
theorem dX8_fits_4 : decode cX8_fits 4 = .ok (.iload_n 3, 1) := by decide +kernel
theorem dX8_fits_5 : decode cX8_fits 5 = .ok (.aload_n 0, 1) := by decide +kernel
theorem dX8_fits_6 : decode cX8_fits 6 = .ok (.getfield 150, 3) := by decide +kernel
theorem dX8_fits_9 : decode cX8_fits 9 = .ok (.if_icmp .ge 77, 3) := by decide +kernel
theorem dX8_fits_12 : decode cX8_fits 12 = .ok (.aload_n 0, 1) := by decide +kernel
theorem dX8_fits_13 : decode cX8_fits 13 = .ok (.getfield 25, 3) := by decide +kernel
theorem dX8_fits_16 : decode cX8_fits 16 = .ok (.iconst 3, 1) := by decide +kernel
theorem dX8_fits_17 : decode cX8_fits 17 = .ok (.iload_n 3, 1) := by decide +kernel
theorem dX8_fits_18 : decode cX8_fits 18 = .ok (.imul, 1) := by decide +kernel
theorem dX8_fits_19 : decode cX8_fits 19 = .ok (.iaload, 1) := by decide +kernel
theorem dX8_fits_20 : decode cX8_fits 20 = .ok (.istore 4, 2) := by decide +kernel
theorem dX8_fits_22 : decode cX8_fits 22 = .ok (.iconst 0, 1) := by decide +kernel
theorem dX8_fits_23 : decode cX8_fits 23 = .ok (.istore 5, 2) := by decide +kernel
theorem dX8_fits_25 : decode cX8_fits 25 = .ok (.iload 5, 2) := by decide +kernel
theorem dX8_fits_27 : decode cX8_fits 27 = .ok (.aload_n 0, 1) := by decide +kernel
theorem dX8_fits_28 : decode cX8_fits 28 = .ok (.getfield 25, 3) := by decide +kernel
theorem dX8_fits_31 : decode cX8_fits 31 = .ok (.iconst 3, 1) := by decide +kernel
theorem dX8_fits_32 : decode cX8_fits 32 = .ok (.iload_n 3, 1) := by decide +kernel
theorem dX8_fits_33 : decode cX8_fits 33 = .ok (.imul, 1) := by decide +kernel
theorem dX8_fits_34 : decode cX8_fits 34 = .ok (.iconst 1, 1) := by decide +kernel
theorem dX8_fits_35 : decode cX8_fits 35 = .ok (.iadd, 1) := by decide +kernel
theorem dX8_fits_36 : decode cX8_fits 36 = .ok (.iaload, 1) := by decide +kernel
theorem dX8_fits_37 : decode cX8_fits 37 = .ok (.if_icmp .ge 18, 3) := by decide +kernel
theorem dX8_fits_40 : decode cX8_fits 40 = .ok (.iload 4, 2) := by decide +kernel
theorem dX8_fits_42 : decode cX8_fits 42 = .ok (.iload_n 1, 1) := by decide +kernel
theorem dX8_fits_43 : decode cX8_fits 43 = .ok (.iadd, 1) := by decide +kernel
theorem dX8_fits_44 : decode cX8_fits 44 = .ok (.invokestatic 87, 3) := by decide +kernel
theorem dX8_fits_47 : decode cX8_fits 47 = .ok (.istore 4, 2) := by decide +kernel
theorem dX8_fits_49 : decode cX8_fits 49 = .ok (.iinc 5 1, 3) := by decide +kernel
theorem dX8_fits_52 : decode cX8_fits 52 = .ok (.goto (-27), 3) := by decide +kernel
theorem dX8_fits_55 : decode cX8_fits 55 = .ok (.iload_n 2, 1) := by decide +kernel
theorem dX8_fits_56 : decode cX8_fits 56 = .ok (.ifCond .eq 22, 3) := by decide +kernel
theorem dX8_fits_59 : decode cX8_fits 59 = .ok (.iload 4, 2) := by decide +kernel
theorem dX8_fits_61 : decode cX8_fits 61 = .ok (.aload_n 0, 1) := by decide +kernel
theorem dX8_fits_62 : decode cX8_fits 62 = .ok (.getfield 25, 3) := by decide +kernel
theorem dX8_fits_65 : decode cX8_fits 65 = .ok (.iconst 3, 1) := by decide +kernel
theorem dX8_fits_66 : decode cX8_fits 66 = .ok (.iload_n 3, 1) := by decide +kernel
theorem dX8_fits_67 : decode cX8_fits 67 = .ok (.imul, 1) := by decide +kernel
theorem dX8_fits_68 : decode cX8_fits 68 = .ok (.iconst 2, 1) := by decide +kernel
theorem dX8_fits_69 : decode cX8_fits 69 = .ok (.iadd, 1) := by decide +kernel
theorem dX8_fits_70 : decode cX8_fits 70 = .ok (.iaload, 1) := by decide +kernel
theorem dX8_fits_71 : decode cX8_fits 71 = .ok (.if_icmp .ne 7, 3) := by decide +kernel
theorem dX8_fits_74 : decode cX8_fits 74 = .ok (.iconst 1, 1) := by decide +kernel
theorem dX8_fits_75 : decode cX8_fits 75 = .ok (.goto 4, 3) := by decide +kernel
theorem dX8_fits_78 : decode cX8_fits 78 = .ok (.iconst 0, 1) := by decide +kernel
theorem dX8_fits_79 : decode cX8_fits 79 = .ok (.istore_n 2, 1) := by decide +kernel
theorem dX8_fits_80 : decode cX8_fits 80 = .ok (.iinc 3 1, 3) := by decide +kernel
theorem dX8_fits_83 : decode cX8_fits 83 = .ok (.goto (-79), 3) := by decide +kernel
theorem dX8_fits_86 : decode cX8_fits 86 = .ok (.iload_n 2, 1) := by decide +kernel
theorem dX8_fits_87 : decode cX8_fits 87 = .ok (.ireturn, 1) := by decide +kernel
theorem dX8_does_0 : decode cX8_does 0 = .ok (.iconst 0, 1) := by decide +kernel
theorem dX8_does_1 : decode cX8_does 1 = .ok (.istore_n 2, 1) := by decide +kernel
theorem dX8_does_2 : decode cX8_does 2 = .ok (.bipush (-5), 2) := by decide +kernel
theorem dX8_does_4 : decode cX8_does 4 = .ok (.istore_n 3, 1) := by decide +kernel
theorem dX8_does_5 : decode cX8_does 5 = .ok (.iload_n 3, 1) := by decide +kernel
theorem dX8_does_6 : decode cX8_does 6 = .ok (.bipush 6, 2) := by decide +kernel
theorem dX8_does_8 : decode cX8_does 8 = .ok (.if_icmp .ge 30, 3) := by decide +kernel
theorem dX8_does_11 : decode cX8_does 11 = .ok (.aload_n 0, 1) := by decide +kernel
theorem dX8_does_12 : decode cX8_does 12 = .ok (.iload_n 3, 1) := by decide +kernel
theorem dX8_does_13 : decode cX8_does 13 = .ok (.invokevirtual 153, 3) := by decide +kernel
theorem dX8_does_16 : decode cX8_does 16 = .ok (.ifCond .eq 16, 3) := by decide +kernel
theorem dX8_does_19 : decode cX8_does 19 = .ok (.iload_n 2, 1) := by decide +kernel
theorem dX8_does_20 : decode cX8_does 20 = .ok (.iload_n 1, 1) := by decide +kernel
theorem dX8_does_21 : decode cX8_does 21 = .ok (.if_icmp .ne 8, 3) := by decide +kernel
theorem dX8_does_24 : decode cX8_does 24 = .ok (.iload_n 3, 1) := by decide +kernel
theorem dX8_does_25 : decode cX8_does 25 = .ok (.bipush 10, 2) := by decide +kernel
theorem dX8_does_27 : decode cX8_does 27 = .ok (.iadd, 1) := by decide +kernel
theorem dX8_does_28 : decode cX8_does 28 = .ok (.ireturn, 1) := by decide +kernel
theorem dX8_does_29 : decode cX8_does 29 = .ok (.iinc 2 1, 3) := by decide +kernel
theorem dX8_does_32 : decode cX8_does 32 = .ok (.iinc 3 1, 3) := by decide +kernel
theorem dX8_does_35 : decode cX8_does 35 = .ok (.goto (-30), 3) := by decide +kernel
theorem dX8_does_38 : decode cX8_does 38 = .ok (.iload_n 1, 1) := by decide +kernel
theorem dX8_does_39 : decode cX8_does 39 = .ok (.iconst (-1), 1) := by decide +kernel
theorem dX8_does_40 : decode cX8_does 40 = .ok (.if_icmp .ne 7, 3) := by decide +kernel
theorem dX8_does_43 : decode cX8_does 43 = .ok (.iload_n 2, 1) := by decide +kernel
theorem dX8_does_44 : decode cX8_does 44 = .ok (.goto 5, 3) := by decide +kernel
theorem dX8_does_47 : decode cX8_does 47 = .ok (.bipush (-6), 2) := by decide +kernel
theorem dX8_does_49 : decode cX8_does 49 = .ok (.ireturn, 1) := by decide +kernel
theorem dX8_tries_0 : decode cX8_tries 0 = .ok (.iload_n 1, 1) := by decide +kernel
theorem dX8_tries_1 : decode cX8_tries 1 = .ok (.iconst 0, 1) := by decide +kernel
theorem dX8_tries_2 : decode cX8_tries 2 = .ok (.iconst 1, 1) := by decide +kernel
theorem dX8_tries_3 : decode cX8_tries 3 = .ok (.invokestatic 61, 3) := by decide +kernel
theorem dX8_tries_6 : decode cX8_tries 6 = .ok (.ifCond .ne 6, 3) := by decide +kernel
theorem dX8_tries_9 : decode cX8_tries 9 = .ok (.bipush (-2), 2) := by decide +kernel
theorem dX8_tries_11 : decode cX8_tries 11 = .ok (.ireturn, 1) := by decide +kernel
theorem dX8_tries_12 : decode cX8_tries 12 = .ok (.bipush (-6), 2) := by decide +kernel
theorem dX8_tries_14 : decode cX8_tries 14 = .ok (.istore_n 2, 1) := by decide +kernel
theorem dX8_tries_15 : decode cX8_tries 15 = .ok (.ldc 133, 2) := by decide +kernel
theorem dX8_tries_17 : decode cX8_tries 17 = .ok (.istore_n 3, 1) := by decide +kernel
theorem dX8_tries_18 : decode cX8_tries 18 = .ok (.iconst 0, 1) := by decide +kernel
theorem dX8_tries_19 : decode cX8_tries 19 = .ok (.istore 4, 2) := by decide +kernel
theorem dX8_tries_21 : decode cX8_tries 21 = .ok (.iload 4, 2) := by decide +kernel
theorem dX8_tries_23 : decode cX8_tries 23 = .ok (.bipush 21, 2) := by decide +kernel
theorem dX8_tries_25 : decode cX8_tries 25 = .ok (.if_icmp .ge 154, 3) := by decide +kernel
theorem dX8_tries_28 : decode cX8_tries 28 = .ok (.iconst 0, 1) := by decide +kernel
theorem dX8_tries_29 : decode cX8_tries 29 = .ok (.istore 5, 2) := by decide +kernel
theorem dX8_tries_31 : decode cX8_tries 31 = .ok (.bipush (-5), 2) := by decide +kernel
theorem dX8_tries_33 : decode cX8_tries 33 = .ok (.istore 6, 2) := by decide +kernel
theorem dX8_tries_35 : decode cX8_tries 35 = .ok (.iload 6, 2) := by decide +kernel
theorem dX8_tries_37 : decode cX8_tries 37 = .ok (.bipush 6, 2) := by decide +kernel
theorem dX8_tries_39 : decode cX8_tries 39 = .ok (.if_icmp .ge 92, 3) := by decide +kernel
theorem dX8_tries_42 : decode cX8_tries 42 = .ok (.iconst 0, 1) := by decide +kernel
theorem dX8_tries_43 : decode cX8_tries 43 = .ok (.istore 7, 2) := by decide +kernel
theorem dX8_tries_45 : decode cX8_tries 45 = .ok (.bipush (-5), 2) := by decide +kernel
theorem dX8_tries_47 : decode cX8_tries 47 = .ok (.istore 8, 2) := by decide +kernel
theorem dX8_tries_49 : decode cX8_tries 49 = .ok (.iload 8, 2) := by decide +kernel
theorem dX8_tries_51 : decode cX8_tries 51 = .ok (.bipush 6, 2) := by decide +kernel
theorem dX8_tries_53 : decode cX8_tries 53 = .ok (.if_icmp .ge 56, 3) := by decide +kernel
theorem dX8_tries_56 : decode cX8_tries 56 = .ok (.iload 7, 2) := by decide +kernel
theorem dX8_tries_58 : decode cX8_tries 58 = .ok (.aload_n 0, 1) := by decide +kernel
theorem dX8_tries_59 : decode cX8_tries 59 = .ok (.iload 6, 2) := by decide +kernel
theorem dX8_tries_61 : decode cX8_tries 61 = .ok (.invokevirtual 153, 3) := by decide +kernel
theorem dX8_tries_64 : decode cX8_tries 64 = .ok (.ifCond .eq 35, 3) := by decide +kernel
theorem dX8_tries_67 : decode cX8_tries 67 = .ok (.aload_n 0, 1) := by decide +kernel
theorem dX8_tries_68 : decode cX8_tries 68 = .ok (.iload 8, 2) := by decide +kernel
theorem dX8_tries_70 : decode cX8_tries 70 = .ok (.invokevirtual 153, 3) := by decide +kernel
theorem dX8_tries_73 : decode cX8_tries 73 = .ok (.ifCond .eq 26, 3) := by decide +kernel
theorem dX8_tries_76 : decode cX8_tries 76 = .ok (.iload 4, 2) := by decide +kernel
theorem dX8_tries_78 : decode cX8_tries 78 = .ok (.iload 6, 2) := by decide +kernel
theorem dX8_tries_80 : decode cX8_tries 80 = .ok (.iadd, 1) := by decide +kernel
theorem dX8_tries_81 : decode cX8_tries 81 = .ok (.invokestatic 87, 3) := by decide +kernel
theorem dX8_tries_84 : decode cX8_tries 84 = .ok (.iload 4, 2) := by decide +kernel
theorem dX8_tries_86 : decode cX8_tries 86 = .ok (.iload 8, 2) := by decide +kernel
theorem dX8_tries_88 : decode cX8_tries 88 = .ok (.iadd, 1) := by decide +kernel
theorem dX8_tries_89 : decode cX8_tries 89 = .ok (.invokestatic 87, 3) := by decide +kernel
theorem dX8_tries_92 : decode cX8_tries 92 = .ok (.if_icmp .ne 7, 3) := by decide +kernel
theorem dX8_tries_95 : decode cX8_tries 95 = .ok (.iconst 1, 1) := by decide +kernel
theorem dX8_tries_96 : decode cX8_tries 96 = .ok (.goto 4, 3) := by decide +kernel
theorem dX8_tries_99 : decode cX8_tries 99 = .ok (.iconst 0, 1) := by decide +kernel
theorem dX8_tries_100 : decode cX8_tries 100 = .ok (.iadd, 1) := by decide +kernel
theorem dX8_tries_101 : decode cX8_tries 101 = .ok (.istore 7, 2) := by decide +kernel
theorem dX8_tries_103 : decode cX8_tries 103 = .ok (.iinc 8 1, 3) := by decide +kernel
theorem dX8_tries_106 : decode cX8_tries 106 = .ok (.goto (-57), 3) := by decide +kernel
theorem dX8_tries_109 : decode cX8_tries 109 = .ok (.iload 7, 2) := by decide +kernel
theorem dX8_tries_111 : decode cX8_tries 111 = .ok (.iload 5, 2) := by decide +kernel
theorem dX8_tries_113 : decode cX8_tries 113 = .ok (.if_icmp .le 8, 3) := by decide +kernel
theorem dX8_tries_116 : decode cX8_tries 116 = .ok (.iload 7, 2) := by decide +kernel
theorem dX8_tries_118 : decode cX8_tries 118 = .ok (.goto 5, 3) := by decide +kernel
theorem dX8_tries_121 : decode cX8_tries 121 = .ok (.iload 5, 2) := by decide +kernel
theorem dX8_tries_123 : decode cX8_tries 123 = .ok (.istore 5, 2) := by decide +kernel
theorem dX8_tries_125 : decode cX8_tries 125 = .ok (.iinc 6 1, 3) := by decide +kernel
theorem dX8_tries_128 : decode cX8_tries 128 = .ok (.goto (-93), 3) := by decide +kernel
theorem dX8_tries_131 : decode cX8_tries 131 = .ok (.iload 5, 2) := by decide +kernel
theorem dX8_tries_133 : decode cX8_tries 133 = .ok (.ifCond .le 13, 3) := by decide +kernel
theorem dX8_tries_136 : decode cX8_tries 136 = .ok (.iload 5, 2) := by decide +kernel
theorem dX8_tries_138 : decode cX8_tries 138 = .ok (.iload_n 3, 1) := by decide +kernel
theorem dX8_tries_139 : decode cX8_tries 139 = .ok (.if_icmp .ge 7, 3) := by decide +kernel
theorem dX8_tries_142 : decode cX8_tries 142 = .ok (.iconst 1, 1) := by decide +kernel
theorem dX8_tries_143 : decode cX8_tries 143 = .ok (.goto 4, 3) := by decide +kernel
theorem dX8_tries_146 : decode cX8_tries 146 = .ok (.iconst 0, 1) := by decide +kernel
theorem dX8_tries_147 : decode cX8_tries 147 = .ok (.istore 6, 2) := by decide +kernel
theorem dX8_tries_149 : decode cX8_tries 149 = .ok (.iload 6, 2) := by decide +kernel
theorem dX8_tries_151 : decode cX8_tries 151 = .ok (.ifCond .eq 8, 3) := by decide +kernel
theorem dX8_tries_154 : decode cX8_tries 154 = .ok (.iload 4, 2) := by decide +kernel
theorem dX8_tries_156 : decode cX8_tries 156 = .ok (.goto 4, 3) := by decide +kernel
theorem dX8_tries_159 : decode cX8_tries 159 = .ok (.iload_n 2, 1) := by decide +kernel
theorem dX8_tries_160 : decode cX8_tries 160 = .ok (.istore_n 2, 1) := by decide +kernel
theorem dX8_tries_161 : decode cX8_tries 161 = .ok (.iload 6, 2) := by decide +kernel
theorem dX8_tries_163 : decode cX8_tries 163 = .ok (.ifCond .eq 8, 3) := by decide +kernel
theorem dX8_tries_166 : decode cX8_tries 166 = .ok (.iload 5, 2) := by decide +kernel
theorem dX8_tries_168 : decode cX8_tries 168 = .ok (.goto 4, 3) := by decide +kernel
theorem dX8_tries_171 : decode cX8_tries 171 = .ok (.iload_n 3, 1) := by decide +kernel
theorem dX8_tries_172 : decode cX8_tries 172 = .ok (.istore_n 3, 1) := by decide +kernel
theorem dX8_tries_173 : decode cX8_tries 173 = .ok (.iinc 4 1, 3) := by decide +kernel
theorem dX8_tries_176 : decode cX8_tries 176 = .ok (.goto (-155), 3) := by decide +kernel
theorem dX8_tries_179 : decode cX8_tries 179 = .ok (.iload_n 2, 1) := by decide +kernel
theorem dX8_tries_180 : decode cX8_tries 180 = .ok (.ifCond .lt 7, 3) := by decide +kernel
theorem dX8_tries_183 : decode cX8_tries 183 = .ok (.iload_n 1, 1) := by decide +kernel
theorem dX8_tries_184 : decode cX8_tries 184 = .ok (.ifCond .ne 7, 3) := by decide +kernel
theorem dX8_tries_187 : decode cX8_tries 187 = .ok (.iload_n 2, 1) := by decide +kernel
theorem dX8_tries_188 : decode cX8_tries 188 = .ok (.goto 4, 3) := by decide +kernel
theorem dX8_tries_191 : decode cX8_tries 191 = .ok (.iload_n 3, 1) := by decide +kernel
theorem dX8_tries_192 : decode cX8_tries 192 = .ok (.ireturn, 1) := by decide +kernel
theorem dX8_part_0 : decode cX8_part 0 = .ok (.lload_n 0, 1) := by decide +kernel
theorem dX8_part_1 : decode cX8_part 1 = .ok (.lconst 0, 1) := by decide +kernel
theorem dX8_part_2 : decode cX8_part 2 = .ok (.lcmp, 1) := by decide +kernel
theorem dX8_part_3 : decode cX8_part 3 = .ok (.ifCond .ge 8, 3) := by decide +kernel
theorem dX8_part_6 : decode cX8_part 6 = .ok (.lload_n 0, 1) := by decide +kernel
theorem dX8_part_7 : decode cX8_part 7 = .ok (.lneg, 1) := by decide +kernel
theorem dX8_part_8 : decode cX8_part 8 = .ok (.goto 4, 3) := by decide +kernel
theorem dX8_part_11 : decode cX8_part 11 = .ok (.lload_n 0, 1) := by decide +kernel
theorem dX8_part_12 : decode cX8_part 12 = .ok (.lstore 5, 2) := by decide +kernel
theorem dX8_part_14 : decode cX8_part 14 = .ok (.lload_n 2, 1) := by decide +kernel
theorem dX8_part_15 : decode cX8_part 15 = .ok (.lstore 7, 2) := by decide +kernel
theorem dX8_part_17 : decode cX8_part 17 = .ok (.lload 7, 2) := by decide +kernel
theorem dX8_part_19 : decode cX8_part 19 = .ok (.lconst 0, 1) := by decide +kernel
theorem dX8_part_20 : decode cX8_part 20 = .ok (.lcmp, 1) := by decide +kernel
theorem dX8_part_21 : decode cX8_part 21 = .ok (.ifCond .eq 21, 3) := by decide +kernel
theorem dX8_part_24 : decode cX8_part 24 = .ok (.lload 5, 2) := by decide +kernel
theorem dX8_part_26 : decode cX8_part 26 = .ok (.lload 7, 2) := by decide +kernel
theorem dX8_part_28 : decode cX8_part 28 = .ok (.lrem, 1) := by decide +kernel
theorem dX8_part_29 : decode cX8_part 29 = .ok (.lstore 9, 2) := by decide +kernel
theorem dX8_part_31 : decode cX8_part 31 = .ok (.lload 7, 2) := by decide +kernel
theorem dX8_part_33 : decode cX8_part 33 = .ok (.lstore 5, 2) := by decide +kernel
theorem dX8_part_35 : decode cX8_part 35 = .ok (.lload 9, 2) := by decide +kernel
theorem dX8_part_37 : decode cX8_part 37 = .ok (.lstore 7, 2) := by decide +kernel
theorem dX8_part_39 : decode cX8_part 39 = .ok (.goto (-22), 3) := by decide +kernel
theorem dX8_part_42 : decode cX8_part 42 = .ok (.iload 4, 2) := by decide +kernel
theorem dX8_part_44 : decode cX8_part 44 = .ok (.ifCond .ne 10, 3) := by decide +kernel
theorem dX8_part_47 : decode cX8_part 47 = .ok (.lload_n 0, 1) := by decide +kernel
theorem dX8_part_48 : decode cX8_part 48 = .ok (.lload 5, 2) := by decide +kernel
theorem dX8_part_50 : decode cX8_part 50 = .ok (.ldiv, 1) := by decide +kernel
theorem dX8_part_51 : decode cX8_part 51 = .ok (.goto 7, 3) := by decide +kernel
theorem dX8_part_54 : decode cX8_part 54 = .ok (.lload_n 2, 1) := by decide +kernel
theorem dX8_part_55 : decode cX8_part 55 = .ok (.lload 5, 2) := by decide +kernel
theorem dX8_part_57 : decode cX8_part 57 = .ok (.ldiv, 1) := by decide +kernel
theorem dX8_part_58 : decode cX8_part 58 = .ok (.lreturn, 1) := by decide +kernel
theorem dX8_home_0 : decode cX8_home 0 = .ok (.iload_n 1, 1) := by decide +kernel
theorem dX8_home_1 : decode cX8_home 1 = .ok (.iconst 0, 1) := by decide +kernel
theorem dX8_home_2 : decode cX8_home 2 = .ok (.bipush 9, 2) := by decide +kernel
theorem dX8_home_4 : decode cX8_home 4 = .ok (.invokestatic 61, 3) := by decide +kernel
theorem dX8_home_7 : decode cX8_home 7 = .ok (.ifCond .eq 54, 3) := by decide +kernel
theorem dX8_home_10 : decode cX8_home 10 = .ok (.iload_n 2, 1) := by decide +kernel
theorem dX8_home_11 : decode cX8_home 11 = .ok (.iconst 0, 1) := by decide +kernel
theorem dX8_home_12 : decode cX8_home 12 = .ok (.bipush 9, 2) := by decide +kernel
theorem dX8_home_14 : decode cX8_home 14 = .ok (.invokestatic 61, 3) := by decide +kernel
theorem dX8_home_17 : decode cX8_home 17 = .ok (.ifCond .eq 44, 3) := by decide +kernel
theorem dX8_home_20 : decode cX8_home 20 = .ok (.iload_n 3, 1) := by decide +kernel
theorem dX8_home_21 : decode cX8_home 21 = .ok (.iconst 0, 1) := by decide +kernel
theorem dX8_home_22 : decode cX8_home 22 = .ok (.bipush 10, 2) := by decide +kernel
theorem dX8_home_24 : decode cX8_home 24 = .ok (.invokestatic 61, 3) := by decide +kernel
theorem dX8_home_27 : decode cX8_home 27 = .ok (.ifCond .eq 34, 3) := by decide +kernel
theorem dX8_home_30 : decode cX8_home 30 = .ok (.iload 4, 2) := by decide +kernel
theorem dX8_home_32 : decode cX8_home 32 = .ok (.iconst 0, 1) := by decide +kernel
theorem dX8_home_33 : decode cX8_home 33 = .ok (.bipush 9, 2) := by decide +kernel
theorem dX8_home_35 : decode cX8_home 35 = .ok (.invokestatic 61, 3) := by decide +kernel
theorem dX8_home_38 : decode cX8_home 38 = .ok (.ifCond .eq 23, 3) := by decide +kernel
theorem dX8_home_41 : decode cX8_home 41 = .ok (.iload 5, 2) := by decide +kernel
theorem dX8_home_43 : decode cX8_home 43 = .ok (.iconst 0, 1) := by decide +kernel
theorem dX8_home_44 : decode cX8_home 44 = .ok (.iconst 1, 1) := by decide +kernel
theorem dX8_home_45 : decode cX8_home 45 = .ok (.invokestatic 61, 3) := by decide +kernel
theorem dX8_home_48 : decode cX8_home 48 = .ok (.ifCond .eq 13, 3) := by decide +kernel
theorem dX8_home_51 : decode cX8_home 51 = .ok (.iload 6, 2) := by decide +kernel
theorem dX8_home_53 : decode cX8_home 53 = .ok (.iconst 0, 1) := by decide +kernel
theorem dX8_home_54 : decode cX8_home 54 = .ok (.iconst 1, 1) := by decide +kernel
theorem dX8_home_55 : decode cX8_home 55 = .ok (.invokestatic 61, 3) := by decide +kernel
theorem dX8_home_58 : decode cX8_home 58 = .ok (.ifCond .ne 7, 3) := by decide +kernel
theorem dX8_home_61 : decode cX8_home 61 = .ok (.ldc2_w 156, 3) := by decide +kernel
theorem dX8_home_64 : decode cX8_home 64 = .ok (.lreturn, 1) := by decide +kernel
theorem dX8_home_65 : decode cX8_home 65 = .ok (.lconst 1, 1) := by decide +kernel
theorem dX8_home_66 : decode cX8_home 66 = .ok (.lstore 7, 2) := by decide +kernel
theorem dX8_home_68 : decode cX8_home 68 = .ok (.iconst 1, 1) := by decide +kernel
theorem dX8_home_69 : decode cX8_home 69 = .ok (.istore 9, 2) := by decide +kernel
theorem dX8_home_71 : decode cX8_home 71 = .ok (.iconst 0, 1) := by decide +kernel
theorem dX8_home_72 : decode cX8_home 72 = .ok (.istore 10, 2) := by decide +kernel
theorem dX8_home_74 : decode cX8_home 74 = .ok (.iload 10, 2) := by decide +kernel
theorem dX8_home_76 : decode cX8_home 76 = .ok (.iload_n 2, 1) := by decide +kernel
theorem dX8_home_77 : decode cX8_home 77 = .ok (.if_icmp .gt 206, 3) := by decide +kernel
theorem dX8_home_80 : decode cX8_home 80 = .ok (.lload 7, 2) := by decide +kernel
theorem dX8_home_82 : decode cX8_home 82 = .ok (.iload 10, 2) := by decide +kernel
theorem dX8_home_84 : decode cX8_home 84 = .ok (.ifCond .ne 7, 3) := by decide +kernel
theorem dX8_home_87 : decode cX8_home 87 = .ok (.lconst 1, 1) := by decide +kernel
theorem dX8_home_88 : decode cX8_home 88 = .ok (.goto 6, 3) := by decide +kernel
theorem dX8_home_91 : decode cX8_home 91 = .ok (.ldc2_w 158, 3) := by decide +kernel
theorem dX8_home_94 : decode cX8_home 94 = .ok (.lmul, 1) := by decide +kernel
theorem dX8_home_95 : decode cX8_home 95 = .ok (.lstore 7, 2) := by decide +kernel
theorem dX8_home_97 : decode cX8_home 97 = .ok (.iconst 0, 1) := by decide +kernel
theorem dX8_home_98 : decode cX8_home 98 = .ok (.istore 11, 2) := by decide +kernel
theorem dX8_home_100 : decode cX8_home 100 = .ok (.iload 11, 2) := by decide +kernel
theorem dX8_home_102 : decode cX8_home 102 = .ok (.bipush 10, 2) := by decide +kernel
theorem dX8_home_104 : decode cX8_home 104 = .ok (.if_icmp .ge 173, 3) := by decide +kernel
theorem dX8_home_107 : decode cX8_home 107 = .ok (.bipush 10, 2) := by decide +kernel
theorem dX8_home_109 : decode cX8_home 109 = .ok (.iload 11, 2) := by decide +kernel
theorem dX8_home_111 : decode cX8_home 111 = .ok (.isub, 1) := by decide +kernel
theorem dX8_home_112 : decode cX8_home 112 = .ok (.i2l, 1) := by decide +kernel
theorem dX8_home_113 : decode cX8_home 113 = .ok (.lload 7, 2) := by decide +kernel
theorem dX8_home_115 : decode cX8_home 115 = .ok (.lmul, 1) := by decide +kernel
theorem dX8_home_116 : decode cX8_home 116 = .ok (.lstore 12, 2) := by decide +kernel
theorem dX8_home_118 : decode cX8_home 118 = .ok (.lload 12, 2) := by decide +kernel
theorem dX8_home_120 : decode cX8_home 120 = .ok (.lstore 14, 2) := by decide +kernel
theorem dX8_home_122 : decode cX8_home 122 = .ok (.iload 10, 2) := by decide +kernel
theorem dX8_home_124 : decode cX8_home 124 = .ok (.ifCond .le 87, 3) := by decide +kernel
theorem dX8_home_127 : decode cX8_home 127 = .ok (.iload 11, 2) := by decide +kernel
theorem dX8_home_129 : decode cX8_home 129 = .ok (.ifCond .ne 7, 3) := by decide +kernel
theorem dX8_home_132 : decode cX8_home 132 = .ok (.iconst 0, 1) := by decide +kernel
theorem dX8_home_133 : decode cX8_home 133 = .ok (.goto 7, 3) := by decide +kernel
theorem dX8_home_136 : decode cX8_home 136 = .ok (.iload 11, 2) := by decide +kernel
theorem dX8_home_138 : decode cX8_home 138 = .ok (.iconst 1, 1) := by decide +kernel
theorem dX8_home_139 : decode cX8_home 139 = .ok (.isub, 1) := by decide +kernel
theorem dX8_home_140 : decode cX8_home 140 = .ok (.istore 16, 2) := by decide +kernel
theorem dX8_home_142 : decode cX8_home 142 = .ok (.iload 11, 2) := by decide +kernel
theorem dX8_home_144 : decode cX8_home 144 = .ok (.bipush 9, 2) := by decide +kernel
theorem dX8_home_146 : decode cX8_home 146 = .ok (.if_icmp .ne 8, 3) := by decide +kernel
theorem dX8_home_149 : decode cX8_home 149 = .ok (.bipush 9, 2) := by decide +kernel
theorem dX8_home_151 : decode cX8_home 151 = .ok (.goto 7, 3) := by decide +kernel
theorem dX8_home_154 : decode cX8_home 154 = .ok (.iload 11, 2) := by decide +kernel
theorem dX8_home_156 : decode cX8_home 156 = .ok (.iconst 1, 1) := by decide +kernel
theorem dX8_home_157 : decode cX8_home 157 = .ok (.iadd, 1) := by decide +kernel
theorem dX8_home_158 : decode cX8_home 158 = .ok (.istore 17, 2) := by decide +kernel
theorem dX8_home_160 : decode cX8_home 160 = .ok (.iload_n 3, 1) := by decide +kernel
theorem dX8_home_161 : decode cX8_home 161 = .ok (.i2l, 1) := by decide +kernel
theorem dX8_home_162 : decode cX8_home 162 = .ok (.aload_n 0, 1) := by decide +kernel
theorem dX8_home_163 : decode cX8_home 163 = .ok (.getfield 40, 3) := by decide +kernel
theorem dX8_home_166 : decode cX8_home 166 = .ok (.bipush 10, 2) := by decide +kernel
theorem dX8_home_168 : decode cX8_home 168 = .ok (.iload 10, 2) := by decide +kernel
theorem dX8_home_170 : decode cX8_home 170 = .ok (.imul, 1) := by decide +kernel
theorem dX8_home_171 : decode cX8_home 171 = .ok (.bipush 10, 2) := by decide +kernel
theorem dX8_home_173 : decode cX8_home 173 = .ok (.isub, 1) := by decide +kernel
theorem dX8_home_174 : decode cX8_home 174 = .ok (.iload 16, 2) := by decide +kernel
theorem dX8_home_176 : decode cX8_home 176 = .ok (.iadd, 1) := by decide +kernel
theorem dX8_home_177 : decode cX8_home 177 = .ok (.laload, 1) := by decide +kernel
theorem dX8_home_178 : decode cX8_home 178 = .ok (.lmul, 1) := by decide +kernel
theorem dX8_home_179 : decode cX8_home 179 = .ok (.bipush 10, 2) := by decide +kernel
theorem dX8_home_181 : decode cX8_home 181 = .ok (.iload_n 3, 1) := by decide +kernel
theorem dX8_home_182 : decode cX8_home 182 = .ok (.isub, 1) := by decide +kernel
theorem dX8_home_183 : decode cX8_home 183 = .ok (.i2l, 1) := by decide +kernel
theorem dX8_home_184 : decode cX8_home 184 = .ok (.aload_n 0, 1) := by decide +kernel
theorem dX8_home_185 : decode cX8_home 185 = .ok (.getfield 40, 3) := by decide +kernel
theorem dX8_home_188 : decode cX8_home 188 = .ok (.bipush 10, 2) := by decide +kernel
theorem dX8_home_190 : decode cX8_home 190 = .ok (.iload 10, 2) := by decide +kernel
theorem dX8_home_192 : decode cX8_home 192 = .ok (.imul, 1) := by decide +kernel
theorem dX8_home_193 : decode cX8_home 193 = .ok (.bipush 10, 2) := by decide +kernel
theorem dX8_home_195 : decode cX8_home 195 = .ok (.isub, 1) := by decide +kernel
theorem dX8_home_196 : decode cX8_home 196 = .ok (.iload 17, 2) := by decide +kernel
theorem dX8_home_198 : decode cX8_home 198 = .ok (.iadd, 1) := by decide +kernel
theorem dX8_home_199 : decode cX8_home 199 = .ok (.laload, 1) := by decide +kernel
theorem dX8_home_200 : decode cX8_home 200 = .ok (.lmul, 1) := by decide +kernel
theorem dX8_home_201 : decode cX8_home 201 = .ok (.ladd, 1) := by decide +kernel
theorem dX8_home_202 : decode cX8_home 202 = .ok (.iload 4, 2) := by decide +kernel
theorem dX8_home_204 : decode cX8_home 204 = .ok (.i2l, 1) := by decide +kernel
theorem dX8_home_205 : decode cX8_home 205 = .ok (.lload 7, 2) := by decide +kernel
theorem dX8_home_207 : decode cX8_home 207 = .ok (.lmul, 1) := by decide +kernel
theorem dX8_home_208 : decode cX8_home 208 = .ok (.lsub, 1) := by decide +kernel
theorem dX8_home_209 : decode cX8_home 209 = .ok (.lstore 14, 2) := by decide +kernel
theorem dX8_home_211 : decode cX8_home 211 = .ok (.aload_n 0, 1) := by decide +kernel
theorem dX8_home_212 : decode cX8_home 212 = .ok (.getfield 40, 3) := by decide +kernel
theorem dX8_home_215 : decode cX8_home 215 = .ok (.bipush 10, 2) := by decide +kernel
theorem dX8_home_217 : decode cX8_home 217 = .ok (.iload 10, 2) := by decide +kernel
theorem dX8_home_219 : decode cX8_home 219 = .ok (.imul, 1) := by decide +kernel
theorem dX8_home_220 : decode cX8_home 220 = .ok (.iload 11, 2) := by decide +kernel
theorem dX8_home_222 : decode cX8_home 222 = .ok (.iadd, 1) := by decide +kernel
theorem dX8_home_223 : decode cX8_home 223 = .ok (.lload 12, 2) := by decide +kernel
theorem dX8_home_225 : decode cX8_home 225 = .ok (.lload 14, 2) := by decide +kernel
theorem dX8_home_227 : decode cX8_home 227 = .ok (.lcmp, 1) := by decide +kernel
theorem dX8_home_228 : decode cX8_home 228 = .ok (.ifCond .lt 8, 3) := by decide +kernel
theorem dX8_home_231 : decode cX8_home 231 = .ok (.lload 12, 2) := by decide +kernel
theorem dX8_home_233 : decode cX8_home 233 = .ok (.goto 5, 3) := by decide +kernel
theorem dX8_home_236 : decode cX8_home 236 = .ok (.lload 14, 2) := by decide +kernel
theorem dX8_home_238 : decode cX8_home 238 = .ok (.lastore, 1) := by decide +kernel
theorem dX8_home_239 : decode cX8_home 239 = .ok (.iload 10, 2) := by decide +kernel
theorem dX8_home_241 : decode cX8_home 241 = .ok (.iload_n 2, 1) := by decide +kernel
theorem dX8_home_242 : decode cX8_home 242 = .ok (.if_icmp .ne 25, 3) := by decide +kernel
theorem dX8_home_245 : decode cX8_home 245 = .ok (.iload 11, 2) := by decide +kernel
theorem dX8_home_247 : decode cX8_home 247 = .ok (.iload_n 1, 1) := by decide +kernel
theorem dX8_home_248 : decode cX8_home 248 = .ok (.if_icmp .ne 19, 3) := by decide +kernel
theorem dX8_home_251 : decode cX8_home 251 = .ok (.lload 12, 2) := by decide +kernel
theorem dX8_home_253 : decode cX8_home 253 = .ok (.lload 14, 2) := by decide +kernel
theorem dX8_home_255 : decode cX8_home 255 = .ok (.lcmp, 1) := by decide +kernel
theorem dX8_home_256 : decode cX8_home 256 = .ok (.ifCond .lt 7, 3) := by decide +kernel
theorem dX8_home_259 : decode cX8_home 259 = .ok (.iconst 1, 1) := by decide +kernel
theorem dX8_home_260 : decode cX8_home 260 = .ok (.goto 9, 3) := by decide +kernel
theorem dX8_home_263 : decode cX8_home 263 = .ok (.iconst 0, 1) := by decide +kernel
theorem dX8_home_264 : decode cX8_home 264 = .ok (.goto 5, 3) := by decide +kernel
theorem dX8_home_267 : decode cX8_home 267 = .ok (.iload 9, 2) := by decide +kernel
theorem dX8_home_269 : decode cX8_home 269 = .ok (.istore 9, 2) := by decide +kernel
theorem dX8_home_271 : decode cX8_home 271 = .ok (.iinc 11 1, 3) := by decide +kernel
theorem dX8_home_274 : decode cX8_home 274 = .ok (.goto (-174), 3) := by decide +kernel
theorem dX8_home_277 : decode cX8_home 277 = .ok (.iinc 10 1, 3) := by decide +kernel
theorem dX8_home_280 : decode cX8_home 280 = .ok (.goto (-206), 3) := by decide +kernel
theorem dX8_home_283 : decode cX8_home 283 = .ok (.iload 5, 2) := by decide +kernel
theorem dX8_home_285 : decode cX8_home 285 = .ok (.iconst 1, 1) := by decide +kernel
theorem dX8_home_286 : decode cX8_home 286 = .ok (.if_icmp .ne 16, 3) := by decide +kernel
theorem dX8_home_289 : decode cX8_home 289 = .ok (.iload 9, 2) := by decide +kernel
theorem dX8_home_291 : decode cX8_home 291 = .ok (.ifCond .eq 7, 3) := by decide +kernel
theorem dX8_home_294 : decode cX8_home 294 = .ok (.lconst 1, 1) := by decide +kernel
theorem dX8_home_295 : decode cX8_home 295 = .ok (.goto 25, 3) := by decide +kernel
theorem dX8_home_298 : decode cX8_home 298 = .ok (.lconst 0, 1) := by decide +kernel
theorem dX8_home_299 : decode cX8_home 299 = .ok (.goto 21, 3) := by decide +kernel
theorem dX8_home_302 : decode cX8_home 302 = .ok (.aload_n 0, 1) := by decide +kernel
theorem dX8_home_303 : decode cX8_home 303 = .ok (.getfield 40, 3) := by decide +kernel
theorem dX8_home_306 : decode cX8_home 306 = .ok (.bipush 10, 2) := by decide +kernel
theorem dX8_home_308 : decode cX8_home 308 = .ok (.iload_n 2, 1) := by decide +kernel
theorem dX8_home_309 : decode cX8_home 309 = .ok (.imul, 1) := by decide +kernel
theorem dX8_home_310 : decode cX8_home 310 = .ok (.iload_n 1, 1) := by decide +kernel
theorem dX8_home_311 : decode cX8_home 311 = .ok (.iadd, 1) := by decide +kernel
theorem dX8_home_312 : decode cX8_home 312 = .ok (.laload, 1) := by decide +kernel
theorem dX8_home_313 : decode cX8_home 313 = .ok (.lload 7, 2) := by decide +kernel
theorem dX8_home_315 : decode cX8_home 315 = .ok (.iload 6, 2) := by decide +kernel
theorem dX8_home_317 : decode cX8_home 317 = .ok (.invokestatic 160, 3) := by decide +kernel
theorem dX8_home_320 : decode cX8_home 320 = .ok (.lreturn, 1) := by decide +kernel
theorem dX8_bill_0 : decode cX8_bill 0 = .ok (.aload_n 0, 1) := by decide +kernel
theorem dX8_bill_1 : decode cX8_bill 1 = .ok (.iload_n 2, 1) := by decide +kernel
theorem dX8_bill_2 : decode cX8_bill 2 = .ok (.invokevirtual 73, 3) := by decide +kernel
theorem dX8_bill_5 : decode cX8_bill 5 = .ok (.ifCond .ne 5, 3) := by decide +kernel
theorem dX8_bill_8 : decode cX8_bill 8 = .ok (.iconst (-1), 1) := by decide +kernel
theorem dX8_bill_9 : decode cX8_bill 9 = .ok (.ireturn, 1) := by decide +kernel
theorem dX8_bill_10 : decode cX8_bill 10 = .ok (.iload_n 1, 1) := by decide +kernel
theorem dX8_bill_11 : decode cX8_bill 11 = .ok (.iconst 0, 1) := by decide +kernel
theorem dX8_bill_12 : decode cX8_bill 12 = .ok (.sipush 9999, 3) := by decide +kernel
theorem dX8_bill_15 : decode cX8_bill 15 = .ok (.invokestatic 61, 3) := by decide +kernel
theorem dX8_bill_18 : decode cX8_bill 18 = .ok (.ifCond .ne 6, 3) := by decide +kernel
theorem dX8_bill_21 : decode cX8_bill 21 = .ok (.bipush (-2), 2) := by decide +kernel
theorem dX8_bill_23 : decode cX8_bill 23 = .ok (.ireturn, 1) := by decide +kernel
theorem dX8_bill_24 : decode cX8_bill 24 = .ok (.aload_n 0, 1) := by decide +kernel
theorem dX8_bill_25 : decode cX8_bill 25 = .ok (.invokevirtual 105, 3) := by decide +kernel
theorem dX8_bill_28 : decode cX8_bill 28 = .ok (.iconst 0, 1) := by decide +kernel
theorem dX8_bill_29 : decode cX8_bill 29 = .ok (.istore_n 3, 1) := by decide +kernel
theorem dX8_bill_30 : decode cX8_bill 30 = .ok (.iconst 0, 1) := by decide +kernel
theorem dX8_bill_31 : decode cX8_bill 31 = .ok (.istore 4, 2) := by decide +kernel
theorem dX8_bill_33 : decode cX8_bill 33 = .ok (.iload 4, 2) := by decide +kernel
theorem dX8_bill_35 : decode cX8_bill 35 = .ok (.bipush 6, 2) := by decide +kernel
theorem dX8_bill_37 : decode cX8_bill 37 = .ok (.if_icmp .ge 36, 3) := by decide +kernel
theorem dX8_bill_40 : decode cX8_bill 40 = .ok (.iload_n 3, 1) := by decide +kernel
theorem dX8_bill_41 : decode cX8_bill 41 = .ok (.aload_n 0, 1) := by decide +kernel
theorem dX8_bill_42 : decode cX8_bill 42 = .ok (.getfield 57, 3) := by decide +kernel
theorem dX8_bill_45 : decode cX8_bill 45 = .ok (.iload 4, 2) := by decide +kernel
theorem dX8_bill_47 : decode cX8_bill 47 = .ok (.invokestatic 65, 3) := by decide +kernel
theorem dX8_bill_50 : decode cX8_bill 50 = .ok (.ifCond .eq 14, 3) := by decide +kernel
theorem dX8_bill_53 : decode cX8_bill 53 = .ok (.aload_n 0, 1) := by decide +kernel
theorem dX8_bill_54 : decode cX8_bill 54 = .ok (.iload 4, 2) := by decide +kernel
theorem dX8_bill_56 : decode cX8_bill 56 = .ok (.invokevirtual 90, 3) := by decide +kernel
theorem dX8_bill_59 : decode cX8_bill 59 = .ok (.iconst 1, 1) := by decide +kernel
theorem dX8_bill_60 : decode cX8_bill 60 = .ok (.iadd, 1) := by decide +kernel
theorem dX8_bill_61 : decode cX8_bill 61 = .ok (.goto 4, 3) := by decide +kernel
theorem dX8_bill_64 : decode cX8_bill 64 = .ok (.iconst 0, 1) := by decide +kernel
theorem dX8_bill_65 : decode cX8_bill 65 = .ok (.iadd, 1) := by decide +kernel
theorem dX8_bill_66 : decode cX8_bill 66 = .ok (.istore_n 3, 1) := by decide +kernel
theorem dX8_bill_67 : decode cX8_bill 67 = .ok (.iinc 4 1, 3) := by decide +kernel
theorem dX8_bill_70 : decode cX8_bill 70 = .ok (.goto (-37), 3) := by decide +kernel
theorem dX8_bill_73 : decode cX8_bill 73 = .ok (.iload_n 1, 1) := by decide +kernel
theorem dX8_bill_74 : decode cX8_bill 74 = .ok (.istore 4, 2) := by decide +kernel
theorem dX8_bill_76 : decode cX8_bill 76 = .ok (.iconst 0, 1) := by decide +kernel
theorem dX8_bill_77 : decode cX8_bill 77 = .ok (.istore 5, 2) := by decide +kernel
theorem dX8_bill_79 : decode cX8_bill 79 = .ok (.iconst 0, 1) := by decide +kernel
theorem dX8_bill_80 : decode cX8_bill 80 = .ok (.istore 6, 2) := by decide +kernel
theorem dX8_bill_82 : decode cX8_bill 82 = .ok (.iload 6, 2) := by decide +kernel
theorem dX8_bill_84 : decode cX8_bill 84 = .ok (.bipush 6, 2) := by decide +kernel
theorem dX8_bill_86 : decode cX8_bill 86 = .ok (.if_icmp .ge 94, 3) := by decide +kernel
theorem dX8_bill_89 : decode cX8_bill 89 = .ok (.aload_n 0, 1) := by decide +kernel
theorem dX8_bill_90 : decode cX8_bill 90 = .ok (.getfield 57, 3) := by decide +kernel
theorem dX8_bill_93 : decode cX8_bill 93 = .ok (.iload 6, 2) := by decide +kernel
theorem dX8_bill_95 : decode cX8_bill 95 = .ok (.invokestatic 65, 3) := by decide +kernel
theorem dX8_bill_98 : decode cX8_bill 98 = .ok (.ifCond .eq 76, 3) := by decide +kernel
theorem dX8_bill_101 : decode cX8_bill 101 = .ok (.iload 4, 2) := by decide +kernel
theorem dX8_bill_103 : decode cX8_bill 103 = .ok (.iload_n 1, 1) := by decide +kernel
theorem dX8_bill_104 : decode cX8_bill 104 = .ok (.aload_n 0, 1) := by decide +kernel
theorem dX8_bill_105 : decode cX8_bill 105 = .ok (.iload 6, 2) := by decide +kernel
theorem dX8_bill_107 : decode cX8_bill 107 = .ok (.invokevirtual 90, 3) := by decide +kernel
theorem dX8_bill_110 : decode cX8_bill 110 = .ok (.iconst 1, 1) := by decide +kernel
theorem dX8_bill_111 : decode cX8_bill 111 = .ok (.iadd, 1) := by decide +kernel
theorem dX8_bill_112 : decode cX8_bill 112 = .ok (.imul, 1) := by decide +kernel
theorem dX8_bill_113 : decode cX8_bill 113 = .ok (.iload_n 3, 1) := by decide +kernel
theorem dX8_bill_114 : decode cX8_bill 114 = .ok (.idiv, 1) := by decide +kernel
theorem dX8_bill_115 : decode cX8_bill 115 = .ok (.isub, 1) := by decide +kernel
theorem dX8_bill_116 : decode cX8_bill 116 = .ok (.istore 4, 2) := by decide +kernel
theorem dX8_bill_118 : decode cX8_bill 118 = .ok (.aload_n 0, 1) := by decide +kernel
theorem dX8_bill_119 : decode cX8_bill 119 = .ok (.iload 6, 2) := by decide +kernel
theorem dX8_bill_121 : decode cX8_bill 121 = .ok (.invokevirtual 90, 3) := by decide +kernel
theorem dX8_bill_124 : decode cX8_bill 124 = .ok (.aload_n 0, 1) := by decide +kernel
theorem dX8_bill_125 : decode cX8_bill 125 = .ok (.iload_n 2, 1) := by decide +kernel
theorem dX8_bill_126 : decode cX8_bill 126 = .ok (.invokevirtual 90, 3) := by decide +kernel
theorem dX8_bill_129 : decode cX8_bill 129 = .ok (.if_icmp .gt 23, 3) := by decide +kernel
theorem dX8_bill_132 : decode cX8_bill 132 = .ok (.aload_n 0, 1) := by decide +kernel
theorem dX8_bill_133 : decode cX8_bill 133 = .ok (.iload 6, 2) := by decide +kernel
theorem dX8_bill_135 : decode cX8_bill 135 = .ok (.invokevirtual 90, 3) := by decide +kernel
theorem dX8_bill_138 : decode cX8_bill 138 = .ok (.aload_n 0, 1) := by decide +kernel
theorem dX8_bill_139 : decode cX8_bill 139 = .ok (.iload_n 2, 1) := by decide +kernel
theorem dX8_bill_140 : decode cX8_bill 140 = .ok (.invokevirtual 90, 3) := by decide +kernel
theorem dX8_bill_143 : decode cX8_bill 143 = .ok (.if_icmp .ne 13, 3) := by decide +kernel
theorem dX8_bill_146 : decode cX8_bill 146 = .ok (.iload 6, 2) := by decide +kernel
theorem dX8_bill_148 : decode cX8_bill 148 = .ok (.iload_n 2, 1) := by decide +kernel
theorem dX8_bill_149 : decode cX8_bill 149 = .ok (.if_icmp .ge 7, 3) := by decide +kernel
theorem dX8_bill_152 : decode cX8_bill 152 = .ok (.iconst 1, 1) := by decide +kernel
theorem dX8_bill_153 : decode cX8_bill 153 = .ok (.goto 4, 3) := by decide +kernel
theorem dX8_bill_156 : decode cX8_bill 156 = .ok (.iconst 0, 1) := by decide +kernel
theorem dX8_bill_157 : decode cX8_bill 157 = .ok (.istore 7, 2) := by decide +kernel
theorem dX8_bill_159 : decode cX8_bill 159 = .ok (.iload 5, 2) := by decide +kernel
theorem dX8_bill_161 : decode cX8_bill 161 = .ok (.iload 7, 2) := by decide +kernel
theorem dX8_bill_163 : decode cX8_bill 163 = .ok (.ifCond .eq 7, 3) := by decide +kernel
theorem dX8_bill_166 : decode cX8_bill 166 = .ok (.iconst 1, 1) := by decide +kernel
theorem dX8_bill_167 : decode cX8_bill 167 = .ok (.goto 4, 3) := by decide +kernel
theorem dX8_bill_170 : decode cX8_bill 170 = .ok (.iconst 0, 1) := by decide +kernel
theorem dX8_bill_171 : decode cX8_bill 171 = .ok (.iadd, 1) := by decide +kernel
theorem dX8_bill_172 : decode cX8_bill 172 = .ok (.istore 5, 2) := by decide +kernel
theorem dX8_bill_174 : decode cX8_bill 174 = .ok (.iinc 6 1, 3) := by decide +kernel
theorem dX8_bill_177 : decode cX8_bill 177 = .ok (.goto (-95), 3) := by decide +kernel
theorem dX8_bill_180 : decode cX8_bill 180 = .ok (.iload_n 1, 1) := by decide +kernel
theorem dX8_bill_181 : decode cX8_bill 181 = .ok (.aload_n 0, 1) := by decide +kernel
theorem dX8_bill_182 : decode cX8_bill 182 = .ok (.iload_n 2, 1) := by decide +kernel
theorem dX8_bill_183 : decode cX8_bill 183 = .ok (.invokevirtual 90, 3) := by decide +kernel
theorem dX8_bill_186 : decode cX8_bill 186 = .ok (.iconst 1, 1) := by decide +kernel
theorem dX8_bill_187 : decode cX8_bill 187 = .ok (.iadd, 1) := by decide +kernel
theorem dX8_bill_188 : decode cX8_bill 188 = .ok (.imul, 1) := by decide +kernel
theorem dX8_bill_189 : decode cX8_bill 189 = .ok (.iload_n 3, 1) := by decide +kernel
theorem dX8_bill_190 : decode cX8_bill 190 = .ok (.idiv, 1) := by decide +kernel
theorem dX8_bill_191 : decode cX8_bill 191 = .ok (.iload 5, 2) := by decide +kernel
theorem dX8_bill_193 : decode cX8_bill 193 = .ok (.iload 4, 2) := by decide +kernel
theorem dX8_bill_195 : decode cX8_bill 195 = .ok (.if_icmp .ge 7, 3) := by decide +kernel
theorem dX8_bill_198 : decode cX8_bill 198 = .ok (.iconst 1, 1) := by decide +kernel
theorem dX8_bill_199 : decode cX8_bill 199 = .ok (.goto 4, 3) := by decide +kernel
theorem dX8_bill_202 : decode cX8_bill 202 = .ok (.iconst 0, 1) := by decide +kernel
theorem dX8_bill_203 : decode cX8_bill 203 = .ok (.iadd, 1) := by decide +kernel
theorem dX8_bill_204 : decode cX8_bill 204 = .ok (.ireturn, 1) := by decide +kernel
theorem dX8_draughts_0 : decode cX8_draughts 0 = .ok (.aload_n 0, 1) := by decide +kernel
theorem dX8_draughts_1 : decode cX8_draughts 1 = .ok (.iload_n 1, 1) := by decide +kernel
theorem dX8_draughts_2 : decode cX8_draughts 2 = .ok (.invokevirtual 73, 3) := by decide +kernel
theorem dX8_draughts_5 : decode cX8_draughts 5 = .ok (.ifCond .ne 7, 3) := by decide +kernel
theorem dX8_draughts_8 : decode cX8_draughts 8 = .ok (.ldc2_w 164, 3) := by decide +kernel
theorem dX8_draughts_11 : decode cX8_draughts 11 = .ok (.lreturn, 1) := by decide +kernel
theorem dX8_draughts_12 : decode cX8_draughts 12 = .ok (.iload_n 2, 1) := by decide +kernel
theorem dX8_draughts_13 : decode cX8_draughts 13 = .ok (.iconst 0, 1) := by decide +kernel
theorem dX8_draughts_14 : decode cX8_draughts 14 = .ok (.bipush 9, 2) := by decide +kernel
theorem dX8_draughts_16 : decode cX8_draughts 16 = .ok (.invokestatic 61, 3) := by decide +kernel
theorem dX8_draughts_19 : decode cX8_draughts 19 = .ok (.ifCond .eq 34, 3) := by decide +kernel
theorem dX8_draughts_22 : decode cX8_draughts 22 = .ok (.iload_n 3, 1) := by decide +kernel
theorem dX8_draughts_23 : decode cX8_draughts 23 = .ok (.iconst 0, 1) := by decide +kernel
theorem dX8_draughts_24 : decode cX8_draughts 24 = .ok (.bipush 10, 2) := by decide +kernel
theorem dX8_draughts_26 : decode cX8_draughts 26 = .ok (.invokestatic 61, 3) := by decide +kernel
theorem dX8_draughts_29 : decode cX8_draughts 29 = .ok (.ifCond .eq 24, 3) := by decide +kernel
theorem dX8_draughts_32 : decode cX8_draughts 32 = .ok (.iload 4, 2) := by decide +kernel
theorem dX8_draughts_34 : decode cX8_draughts 34 = .ok (.iconst 0, 1) := by decide +kernel
theorem dX8_draughts_35 : decode cX8_draughts 35 = .ok (.bipush 20, 2) := by decide +kernel
theorem dX8_draughts_37 : decode cX8_draughts 37 = .ok (.invokestatic 61, 3) := by decide +kernel
theorem dX8_draughts_40 : decode cX8_draughts 40 = .ok (.ifCond .eq 13, 3) := by decide +kernel
theorem dX8_draughts_43 : decode cX8_draughts 43 = .ok (.iload 5, 2) := by decide +kernel
theorem dX8_draughts_45 : decode cX8_draughts 45 = .ok (.iconst 0, 1) := by decide +kernel
theorem dX8_draughts_46 : decode cX8_draughts 46 = .ok (.iconst 1, 1) := by decide +kernel
theorem dX8_draughts_47 : decode cX8_draughts 47 = .ok (.invokestatic 61, 3) := by decide +kernel
theorem dX8_draughts_50 : decode cX8_draughts 50 = .ok (.ifCond .ne 7, 3) := by decide +kernel
theorem dX8_draughts_53 : decode cX8_draughts 53 = .ok (.ldc2_w 156, 3) := by decide +kernel
theorem dX8_draughts_56 : decode cX8_draughts 56 = .ok (.lreturn, 1) := by decide +kernel
theorem dX8_draughts_57 : decode cX8_draughts 57 = .ok (.aload_n 0, 1) := by decide +kernel
theorem dX8_draughts_58 : decode cX8_draughts 58 = .ok (.getfield 16, 3) := by decide +kernel
theorem dX8_draughts_61 : decode cX8_draughts 61 = .ok (.iconst 3, 1) := by decide +kernel
theorem dX8_draughts_62 : decode cX8_draughts 62 = .ok (.aload_n 0, 1) := by decide +kernel
theorem dX8_draughts_63 : decode cX8_draughts 63 = .ok (.getfield 7, 3) := by decide +kernel
theorem dX8_draughts_66 : decode cX8_draughts 66 = .ok (.bipush 18, 2) := by decide +kernel
theorem dX8_draughts_68 : decode cX8_draughts 68 = .ok (.iload_n 1, 1) := by decide +kernel
theorem dX8_draughts_69 : decode cX8_draughts 69 = .ok (.iadd, 1) := by decide +kernel
theorem dX8_draughts_70 : decode cX8_draughts 70 = .ok (.iaload, 1) := by decide +kernel
theorem dX8_draughts_71 : decode cX8_draughts 71 = .ok (.imul, 1) := by decide +kernel
theorem dX8_draughts_72 : decode cX8_draughts 72 = .ok (.iconst 2, 1) := by decide +kernel
theorem dX8_draughts_73 : decode cX8_draughts 73 = .ok (.iadd, 1) := by decide +kernel
theorem dX8_draughts_74 : decode cX8_draughts 74 = .ok (.iaload, 1) := by decide +kernel
theorem dX8_draughts_75 : decode cX8_draughts 75 = .ok (.istore 6, 2) := by decide +kernel
theorem dX8_draughts_77 : decode cX8_draughts 77 = .ok (.lconst 1, 1) := by decide +kernel
theorem dX8_draughts_78 : decode cX8_draughts 78 = .ok (.lstore 7, 2) := by decide +kernel
theorem dX8_draughts_80 : decode cX8_draughts 80 = .ok (.iconst 0, 1) := by decide +kernel
theorem dX8_draughts_81 : decode cX8_draughts 81 = .ok (.istore 9, 2) := by decide +kernel
theorem dX8_draughts_83 : decode cX8_draughts 83 = .ok (.iload 9, 2) := by decide +kernel
theorem dX8_draughts_85 : decode cX8_draughts 85 = .ok (.bipush 21, 2) := by decide +kernel
theorem dX8_draughts_87 : decode cX8_draughts 87 = .ok (.if_icmp .ge 36, 3) := by decide +kernel
theorem dX8_draughts_90 : decode cX8_draughts 90 = .ok (.aload_n 0, 1) := by decide +kernel
theorem dX8_draughts_91 : decode cX8_draughts 91 = .ok (.getfield 44, 3) := by decide +kernel
theorem dX8_draughts_94 : decode cX8_draughts 94 = .ok (.iload 9, 2) := by decide +kernel
theorem dX8_draughts_96 : decode cX8_draughts 96 = .ok (.iload 9, 2) := by decide +kernel
theorem dX8_draughts_98 : decode cX8_draughts 98 = .ok (.aload_n 0, 1) := by decide +kernel
theorem dX8_draughts_99 : decode cX8_draughts 99 = .ok (.getfield 7, 3) := by decide +kernel
theorem dX8_draughts_102 : decode cX8_draughts 102 = .ok (.iconst 3, 1) := by decide +kernel
theorem dX8_draughts_103 : decode cX8_draughts 103 = .ok (.iload_n 1, 1) := by decide +kernel
theorem dX8_draughts_104 : decode cX8_draughts 104 = .ok (.imul, 1) := by decide +kernel
theorem dX8_draughts_105 : decode cX8_draughts 105 = .ok (.iconst 2, 1) := by decide +kernel
theorem dX8_draughts_106 : decode cX8_draughts 106 = .ok (.iadd, 1) := by decide +kernel
theorem dX8_draughts_107 : decode cX8_draughts 107 = .ok (.iaload, 1) := by decide +kernel
theorem dX8_draughts_108 : decode cX8_draughts 108 = .ok (.if_icmp .ne 7, 3) := by decide +kernel
theorem dX8_draughts_111 : decode cX8_draughts 111 = .ok (.lconst 1, 1) := by decide +kernel
theorem dX8_draughts_112 : decode cX8_draughts 112 = .ok (.goto 4, 3) := by decide +kernel
theorem dX8_draughts_115 : decode cX8_draughts 115 = .ok (.lconst 0, 1) := by decide +kernel
theorem dX8_draughts_116 : decode cX8_draughts 116 = .ok (.lastore, 1) := by decide +kernel
theorem dX8_draughts_117 : decode cX8_draughts 117 = .ok (.iinc 9 1, 3) := by decide +kernel
theorem dX8_draughts_120 : decode cX8_draughts 120 = .ok (.goto (-37), 3) := by decide +kernel
theorem dX8_draughts_123 : decode cX8_draughts 123 = .ok (.iconst 0, 1) := by decide +kernel
theorem dX8_draughts_124 : decode cX8_draughts 124 = .ok (.istore 9, 2) := by decide +kernel
theorem dX8_draughts_126 : decode cX8_draughts 126 = .ok (.iload 9, 2) := by decide +kernel
theorem dX8_draughts_128 : decode cX8_draughts 128 = .ok (.iload_n 2, 1) := by decide +kernel
theorem dX8_draughts_129 : decode cX8_draughts 129 = .ok (.if_icmp .ge 144, 3) := by decide +kernel
theorem dX8_draughts_132 : decode cX8_draughts 132 = .ok (.iconst 0, 1) := by decide +kernel
theorem dX8_draughts_133 : decode cX8_draughts 133 = .ok (.istore 10, 2) := by decide +kernel
theorem dX8_draughts_135 : decode cX8_draughts 135 = .ok (.iload 10, 2) := by decide +kernel
theorem dX8_draughts_137 : decode cX8_draughts 137 = .ok (.bipush 21, 2) := by decide +kernel
theorem dX8_draughts_139 : decode cX8_draughts 139 = .ok (.if_icmp .ge 17, 3) := by decide +kernel
theorem dX8_draughts_142 : decode cX8_draughts 142 = .ok (.aload_n 0, 1) := by decide +kernel
theorem dX8_draughts_143 : decode cX8_draughts 143 = .ok (.getfield 47, 3) := by decide +kernel
theorem dX8_draughts_146 : decode cX8_draughts 146 = .ok (.iload 10, 2) := by decide +kernel
theorem dX8_draughts_148 : decode cX8_draughts 148 = .ok (.lconst 0, 1) := by decide +kernel
theorem dX8_draughts_149 : decode cX8_draughts 149 = .ok (.lastore, 1) := by decide +kernel
theorem dX8_draughts_150 : decode cX8_draughts 150 = .ok (.iinc 10 1, 3) := by decide +kernel
theorem dX8_draughts_153 : decode cX8_draughts 153 = .ok (.goto (-18), 3) := by decide +kernel
theorem dX8_draughts_156 : decode cX8_draughts 156 = .ok (.iconst 0, 1) := by decide +kernel
theorem dX8_draughts_157 : decode cX8_draughts 157 = .ok (.istore 10, 2) := by decide +kernel
theorem dX8_draughts_159 : decode cX8_draughts 159 = .ok (.iload 10, 2) := by decide +kernel
theorem dX8_draughts_161 : decode cX8_draughts 161 = .ok (.bipush 21, 2) := by decide +kernel
theorem dX8_draughts_163 : decode cX8_draughts 163 = .ok (.if_icmp .ge 66, 3) := by decide +kernel
theorem dX8_draughts_166 : decode cX8_draughts 166 = .ok (.aload_n 0, 1) := by decide +kernel
theorem dX8_draughts_167 : decode cX8_draughts 167 = .ok (.getfield 47, 3) := by decide +kernel
theorem dX8_draughts_170 : decode cX8_draughts 170 = .ok (.iload 10, 2) := by decide +kernel
theorem dX8_draughts_172 : decode cX8_draughts 172 = .ok (.iload 6, 2) := by decide +kernel
theorem dX8_draughts_174 : decode cX8_draughts 174 = .ok (.iadd, 1) := by decide +kernel
theorem dX8_draughts_175 : decode cX8_draughts 175 = .ok (.invokestatic 87, 3) := by decide +kernel
theorem dX8_draughts_178 : decode cX8_draughts 178 = .ok (.dup2, 1) := by decide +kernel
theorem dX8_draughts_179 : decode cX8_draughts 179 = .ok (.laload, 1) := by decide +kernel
theorem dX8_draughts_180 : decode cX8_draughts 180 = .ok (.aload_n 0, 1) := by decide +kernel
theorem dX8_draughts_181 : decode cX8_draughts 181 = .ok (.getfield 44, 3) := by decide +kernel
theorem dX8_draughts_184 : decode cX8_draughts 184 = .ok (.iload 10, 2) := by decide +kernel
theorem dX8_draughts_186 : decode cX8_draughts 186 = .ok (.laload, 1) := by decide +kernel
theorem dX8_draughts_187 : decode cX8_draughts 187 = .ok (.bipush 10, 2) := by decide +kernel
theorem dX8_draughts_189 : decode cX8_draughts 189 = .ok (.iload_n 3, 1) := by decide +kernel
theorem dX8_draughts_190 : decode cX8_draughts 190 = .ok (.isub, 1) := by decide +kernel
theorem dX8_draughts_191 : decode cX8_draughts 191 = .ok (.i2l, 1) := by decide +kernel
theorem dX8_draughts_192 : decode cX8_draughts 192 = .ok (.lmul, 1) := by decide +kernel
theorem dX8_draughts_193 : decode cX8_draughts 193 = .ok (.ladd, 1) := by decide +kernel
theorem dX8_draughts_194 : decode cX8_draughts 194 = .ok (.lastore, 1) := by decide +kernel
theorem dX8_draughts_195 : decode cX8_draughts 195 = .ok (.aload_n 0, 1) := by decide +kernel
theorem dX8_draughts_196 : decode cX8_draughts 196 = .ok (.getfield 47, 3) := by decide +kernel
theorem dX8_draughts_199 : decode cX8_draughts 199 = .ok (.iload 10, 2) := by decide +kernel
theorem dX8_draughts_201 : decode cX8_draughts 201 = .ok (.iload 6, 2) := by decide +kernel
theorem dX8_draughts_203 : decode cX8_draughts 203 = .ok (.iadd, 1) := by decide +kernel
theorem dX8_draughts_204 : decode cX8_draughts 204 = .ok (.iconst 1, 1) := by decide +kernel
theorem dX8_draughts_205 : decode cX8_draughts 205 = .ok (.iadd, 1) := by decide +kernel
theorem dX8_draughts_206 : decode cX8_draughts 206 = .ok (.invokestatic 87, 3) := by decide +kernel
theorem dX8_draughts_209 : decode cX8_draughts 209 = .ok (.dup2, 1) := by decide +kernel
theorem dX8_draughts_210 : decode cX8_draughts 210 = .ok (.laload, 1) := by decide +kernel
theorem dX8_draughts_211 : decode cX8_draughts 211 = .ok (.aload_n 0, 1) := by decide +kernel
theorem dX8_draughts_212 : decode cX8_draughts 212 = .ok (.getfield 44, 3) := by decide +kernel
theorem dX8_draughts_215 : decode cX8_draughts 215 = .ok (.iload 10, 2) := by decide +kernel
theorem dX8_draughts_217 : decode cX8_draughts 217 = .ok (.laload, 1) := by decide +kernel
theorem dX8_draughts_218 : decode cX8_draughts 218 = .ok (.iload_n 3, 1) := by decide +kernel
theorem dX8_draughts_219 : decode cX8_draughts 219 = .ok (.i2l, 1) := by decide +kernel
theorem dX8_draughts_220 : decode cX8_draughts 220 = .ok (.lmul, 1) := by decide +kernel
theorem dX8_draughts_221 : decode cX8_draughts 221 = .ok (.ladd, 1) := by decide +kernel
theorem dX8_draughts_222 : decode cX8_draughts 222 = .ok (.lastore, 1) := by decide +kernel
theorem dX8_draughts_223 : decode cX8_draughts 223 = .ok (.iinc 10 1, 3) := by decide +kernel
theorem dX8_draughts_226 : decode cX8_draughts 226 = .ok (.goto (-67), 3) := by decide +kernel
theorem dX8_draughts_229 : decode cX8_draughts 229 = .ok (.iconst 0, 1) := by decide +kernel
theorem dX8_draughts_230 : decode cX8_draughts 230 = .ok (.istore 10, 2) := by decide +kernel
theorem dX8_draughts_232 : decode cX8_draughts 232 = .ok (.iload 10, 2) := by decide +kernel
theorem dX8_draughts_234 : decode cX8_draughts 234 = .ok (.bipush 21, 2) := by decide +kernel
theorem dX8_draughts_236 : decode cX8_draughts 236 = .ok (.if_icmp .ge 23, 3) := by decide +kernel
theorem dX8_draughts_239 : decode cX8_draughts 239 = .ok (.aload_n 0, 1) := by decide +kernel
theorem dX8_draughts_240 : decode cX8_draughts 240 = .ok (.getfield 44, 3) := by decide +kernel
theorem dX8_draughts_243 : decode cX8_draughts 243 = .ok (.iload 10, 2) := by decide +kernel
theorem dX8_draughts_245 : decode cX8_draughts 245 = .ok (.aload_n 0, 1) := by decide +kernel
theorem dX8_draughts_246 : decode cX8_draughts 246 = .ok (.getfield 47, 3) := by decide +kernel
theorem dX8_draughts_249 : decode cX8_draughts 249 = .ok (.iload 10, 2) := by decide +kernel
theorem dX8_draughts_251 : decode cX8_draughts 251 = .ok (.laload, 1) := by decide +kernel
theorem dX8_draughts_252 : decode cX8_draughts 252 = .ok (.lastore, 1) := by decide +kernel
theorem dX8_draughts_253 : decode cX8_draughts 253 = .ok (.iinc 10 1, 3) := by decide +kernel
theorem dX8_draughts_256 : decode cX8_draughts 256 = .ok (.goto (-24), 3) := by decide +kernel
theorem dX8_draughts_259 : decode cX8_draughts 259 = .ok (.lload 7, 2) := by decide +kernel
theorem dX8_draughts_261 : decode cX8_draughts 261 = .ok (.ldc2_w 158, 3) := by decide +kernel
theorem dX8_draughts_264 : decode cX8_draughts 264 = .ok (.lmul, 1) := by decide +kernel
theorem dX8_draughts_265 : decode cX8_draughts 265 = .ok (.lstore 7, 2) := by decide +kernel
theorem dX8_draughts_267 : decode cX8_draughts 267 = .ok (.iinc 9 1, 3) := by decide +kernel
theorem dX8_draughts_270 : decode cX8_draughts 270 = .ok (.goto (-144), 3) := by decide +kernel
theorem dX8_draughts_273 : decode cX8_draughts 273 = .ok (.lconst 0, 1) := by decide +kernel
theorem dX8_draughts_274 : decode cX8_draughts 274 = .ok (.lstore 9, 2) := by decide +kernel
theorem dX8_draughts_276 : decode cX8_draughts 276 = .ok (.iconst 0, 1) := by decide +kernel
theorem dX8_draughts_277 : decode cX8_draughts 277 = .ok (.istore 11, 2) := by decide +kernel
theorem dX8_draughts_279 : decode cX8_draughts 279 = .ok (.iload 11, 2) := by decide +kernel
theorem dX8_draughts_281 : decode cX8_draughts 281 = .ok (.iload 4, 2) := by decide +kernel
theorem dX8_draughts_283 : decode cX8_draughts 283 = .ok (.if_icmp .gt 21, 3) := by decide +kernel
theorem dX8_draughts_286 : decode cX8_draughts 286 = .ok (.lload 9, 2) := by decide +kernel
theorem dX8_draughts_288 : decode cX8_draughts 288 = .ok (.aload_n 0, 1) := by decide +kernel
theorem dX8_draughts_289 : decode cX8_draughts 289 = .ok (.getfield 44, 3) := by decide +kernel
theorem dX8_draughts_292 : decode cX8_draughts 292 = .ok (.iload 11, 2) := by decide +kernel
theorem dX8_draughts_294 : decode cX8_draughts 294 = .ok (.laload, 1) := by decide +kernel
theorem dX8_draughts_295 : decode cX8_draughts 295 = .ok (.ladd, 1) := by decide +kernel
theorem dX8_draughts_296 : decode cX8_draughts 296 = .ok (.lstore 9, 2) := by decide +kernel
theorem dX8_draughts_298 : decode cX8_draughts 298 = .ok (.iinc 11 1, 3) := by decide +kernel
theorem dX8_draughts_301 : decode cX8_draughts 301 = .ok (.goto (-22), 3) := by decide +kernel
theorem dX8_draughts_304 : decode cX8_draughts 304 = .ok (.lload 9, 2) := by decide +kernel
theorem dX8_draughts_306 : decode cX8_draughts 306 = .ok (.lload 7, 2) := by decide +kernel
theorem dX8_draughts_308 : decode cX8_draughts 308 = .ok (.iload 5, 2) := by decide +kernel
theorem dX8_draughts_310 : decode cX8_draughts 310 = .ok (.invokestatic 160, 3) := by decide +kernel
theorem dX8_draughts_313 : decode cX8_draughts 313 = .ok (.lreturn, 1) := by decide +kernel
theorem dX8_week_0 : decode cX8_week 0 = .ok (.iload_n 1, 1) := by decide +kernel
theorem dX8_week_1 : decode cX8_week 1 = .ok (.iconst 0, 1) := by decide +kernel
theorem dX8_week_2 : decode cX8_week 2 = .ok (.sipush 9999, 3) := by decide +kernel
theorem dX8_week_5 : decode cX8_week 5 = .ok (.invokestatic 61, 3) := by decide +kernel
theorem dX8_week_8 : decode cX8_week 8 = .ok (.ifCond .eq 22, 3) := by decide +kernel
theorem dX8_week_11 : decode cX8_week 11 = .ok (.iload_n 2, 1) := by decide +kernel
theorem dX8_week_12 : decode cX8_week 12 = .ok (.iconst 1, 1) := by decide +kernel
theorem dX8_week_13 : decode cX8_week 13 = .ok (.bipush 99, 2) := by decide +kernel
theorem dX8_week_15 : decode cX8_week 15 = .ok (.invokestatic 61, 3) := by decide +kernel
theorem dX8_week_18 : decode cX8_week 18 = .ok (.ifCond .eq 12, 3) := by decide +kernel
theorem dX8_week_21 : decode cX8_week 21 = .ok (.iload_n 3, 1) := by decide +kernel
theorem dX8_week_22 : decode cX8_week 22 = .ok (.iconst 0, 1) := by decide +kernel
theorem dX8_week_23 : decode cX8_week 23 = .ok (.iconst 2, 1) := by decide +kernel
theorem dX8_week_24 : decode cX8_week 24 = .ok (.invokestatic 61, 3) := by decide +kernel
theorem dX8_week_27 : decode cX8_week 27 = .ok (.ifCond .ne 6, 3) := by decide +kernel
theorem dX8_week_30 : decode cX8_week 30 = .ok (.bipush (-2), 2) := by decide +kernel
theorem dX8_week_32 : decode cX8_week 32 = .ok (.ireturn, 1) := by decide +kernel
theorem dX8_week_33 : decode cX8_week 33 = .ok (.aload_n 0, 1) := by decide +kernel
theorem dX8_week_34 : decode cX8_week 34 = .ok (.invokevirtual 108, 3) := by decide +kernel
theorem dX8_week_37 : decode cX8_week 37 = .ok (.iload_n 1, 1) := by decide +kernel
theorem dX8_week_38 : decode cX8_week 38 = .ok (.istore 4, 2) := by decide +kernel
theorem dX8_week_40 : decode cX8_week 40 = .ok (.iconst 0, 1) := by decide +kernel
theorem dX8_week_41 : decode cX8_week 41 = .ok (.istore 5, 2) := by decide +kernel
theorem dX8_week_43 : decode cX8_week 43 = .ok (.iload 5, 2) := by decide +kernel
theorem dX8_week_45 : decode cX8_week 45 = .ok (.iload_n 2, 1) := by decide +kernel
theorem dX8_week_46 : decode cX8_week 46 = .ok (.if_icmp .ge 84, 3) := by decide +kernel
theorem dX8_week_49 : decode cX8_week 49 = .ok (.bipush 75, 2) := by decide +kernel
theorem dX8_week_51 : decode cX8_week 51 = .ok (.iload 4, 2) := by decide +kernel
theorem dX8_week_53 : decode cX8_week 53 = .ok (.imul, 1) := by decide +kernel
theorem dX8_week_54 : decode cX8_week 54 = .ok (.bipush 74, 2) := by decide +kernel
theorem dX8_week_56 : decode cX8_week 56 = .ok (.iadd, 1) := by decide +kernel
theorem dX8_week_57 : decode cX8_week 57 = .ok (.ldc 166, 2) := by decide +kernel
theorem dX8_week_59 : decode cX8_week 59 = .ok (.irem, 1) := by decide +kernel
theorem dX8_week_60 : decode cX8_week 60 = .ok (.istore 4, 2) := by decide +kernel
theorem dX8_week_62 : decode cX8_week 62 = .ok (.iload 4, 2) := by decide +kernel
theorem dX8_week_64 : decode cX8_week 64 = .ok (.bipush 8, 2) := by decide +kernel
theorem dX8_week_66 : decode cX8_week 66 = .ok (.irem, 1) := by decide +kernel
theorem dX8_week_67 : decode cX8_week 67 = .ok (.istore 6, 2) := by decide +kernel
theorem dX8_week_69 : decode cX8_week 69 = .ok (.iload 4, 2) := by decide +kernel
theorem dX8_week_71 : decode cX8_week 71 = .ok (.bipush 8, 2) := by decide +kernel
theorem dX8_week_73 : decode cX8_week 73 = .ok (.idiv, 1) := by decide +kernel
theorem dX8_week_74 : decode cX8_week 74 = .ok (.bipush 6, 2) := by decide +kernel
theorem dX8_week_76 : decode cX8_week 76 = .ok (.irem, 1) := by decide +kernel
theorem dX8_week_77 : decode cX8_week 77 = .ok (.istore 7, 2) := by decide +kernel
theorem dX8_week_79 : decode cX8_week 79 = .ok (.iload 6, 2) := by decide +kernel
theorem dX8_week_81 : decode cX8_week 81 = .ok (.iconst 4, 1) := by decide +kernel
theorem dX8_week_82 : decode cX8_week 82 = .ok (.if_icmp .ge 11, 3) := by decide +kernel
theorem dX8_week_85 : decode cX8_week 85 = .ok (.aload_n 0, 1) := by decide +kernel
theorem dX8_week_86 : decode cX8_week 86 = .ok (.invokevirtual 114, 3) := by decide +kernel
theorem dX8_week_89 : decode cX8_week 89 = .ok (.pop, 1) := by decide +kernel
theorem dX8_week_90 : decode cX8_week 90 = .ok (.goto 34, 3) := by decide +kernel
theorem dX8_week_93 : decode cX8_week 93 = .ok (.iload 6, 2) := by decide +kernel
theorem dX8_week_95 : decode cX8_week 95 = .ok (.bipush 6, 2) := by decide +kernel
theorem dX8_week_97 : decode cX8_week 97 = .ok (.if_icmp .ge 13, 3) := by decide +kernel
theorem dX8_week_100 : decode cX8_week 100 = .ok (.aload_n 0, 1) := by decide +kernel
theorem dX8_week_101 : decode cX8_week 101 = .ok (.iload 7, 2) := by decide +kernel
theorem dX8_week_103 : decode cX8_week 103 = .ok (.invokevirtual 120, 3) := by decide +kernel
theorem dX8_week_106 : decode cX8_week 106 = .ok (.pop, 1) := by decide +kernel
theorem dX8_week_107 : decode cX8_week 107 = .ok (.goto 17, 3) := by decide +kernel
theorem dX8_week_110 : decode cX8_week 110 = .ok (.aload_n 0, 1) := by decide +kernel
theorem dX8_week_111 : decode cX8_week 111 = .ok (.iload 7, 2) := by decide +kernel
theorem dX8_week_113 : decode cX8_week 113 = .ok (.iload 4, 2) := by decide +kernel
theorem dX8_week_115 : decode cX8_week 115 = .ok (.bipush 48, 2) := by decide +kernel
theorem dX8_week_117 : decode cX8_week 117 = .ok (.idiv, 1) := by decide +kernel
theorem dX8_week_118 : decode cX8_week 118 = .ok (.iconst 4, 1) := by decide +kernel
theorem dX8_week_119 : decode cX8_week 119 = .ok (.irem, 1) := by decide +kernel
theorem dX8_week_120 : decode cX8_week 120 = .ok (.invokevirtual 123, 3) := by decide +kernel
theorem dX8_week_123 : decode cX8_week 123 = .ok (.pop, 1) := by decide +kernel
theorem dX8_week_124 : decode cX8_week 124 = .ok (.iinc 5 1, 3) := by decide +kernel
theorem dX8_week_127 : decode cX8_week 127 = .ok (.goto (-84), 3) := by decide +kernel
theorem dX8_week_130 : decode cX8_week 130 = .ok (.iconst 0, 1) := by decide +kernel
theorem dX8_week_131 : decode cX8_week 131 = .ok (.istore 5, 2) := by decide +kernel
theorem dX8_week_133 : decode cX8_week 133 = .ok (.iconst 0, 1) := by decide +kernel
theorem dX8_week_134 : decode cX8_week 134 = .ok (.istore 6, 2) := by decide +kernel
theorem dX8_week_136 : decode cX8_week 136 = .ok (.iconst 0, 1) := by decide +kernel
theorem dX8_week_137 : decode cX8_week 137 = .ok (.istore 7, 2) := by decide +kernel
theorem dX8_week_139 : decode cX8_week 139 = .ok (.iload 7, 2) := by decide +kernel
theorem dX8_week_141 : decode cX8_week 141 = .ok (.bipush 6, 2) := by decide +kernel
theorem dX8_week_143 : decode cX8_week 143 = .ok (.if_icmp .ge 67, 3) := by decide +kernel
theorem dX8_week_146 : decode cX8_week 146 = .ok (.iload 5, 2) := by decide +kernel
theorem dX8_week_148 : decode cX8_week 148 = .ok (.aload_n 0, 1) := by decide +kernel
theorem dX8_week_149 : decode cX8_week 149 = .ok (.getfield 57, 3) := by decide +kernel
theorem dX8_week_152 : decode cX8_week 152 = .ok (.iload 7, 2) := by decide +kernel
theorem dX8_week_154 : decode cX8_week 154 = .ok (.invokestatic 65, 3) := by decide +kernel
theorem dX8_week_157 : decode cX8_week 157 = .ok (.ifCond .eq 12, 3) := by decide +kernel
theorem dX8_week_160 : decode cX8_week 160 = .ok (.aload_n 0, 1) := by decide +kernel
theorem dX8_week_161 : decode cX8_week 161 = .ok (.iload 7, 2) := by decide +kernel
theorem dX8_week_163 : decode cX8_week 163 = .ok (.invokevirtual 90, 3) := by decide +kernel
theorem dX8_week_166 : decode cX8_week 166 = .ok (.goto 4, 3) := by decide +kernel
theorem dX8_week_169 : decode cX8_week 169 = .ok (.iconst 0, 1) := by decide +kernel
theorem dX8_week_170 : decode cX8_week 170 = .ok (.iadd, 1) := by decide +kernel
theorem dX8_week_171 : decode cX8_week 171 = .ok (.istore 5, 2) := by decide +kernel
theorem dX8_week_173 : decode cX8_week 173 = .ok (.iload 6, 2) := by decide +kernel
theorem dX8_week_175 : decode cX8_week 175 = .ok (.aload_n 0, 1) := by decide +kernel
theorem dX8_week_176 : decode cX8_week 176 = .ok (.getfield 57, 3) := by decide +kernel
theorem dX8_week_179 : decode cX8_week 179 = .ok (.iload 7, 2) := by decide +kernel
theorem dX8_week_181 : decode cX8_week 181 = .ok (.invokestatic 65, 3) := by decide +kernel
theorem dX8_week_184 : decode cX8_week 184 = .ok (.ifCond .eq 16, 3) := by decide +kernel
theorem dX8_week_187 : decode cX8_week 187 = .ok (.aload_n 0, 1) := by decide +kernel
theorem dX8_week_188 : decode cX8_week 188 = .ok (.iload 7, 2) := by decide +kernel
theorem dX8_week_190 : decode cX8_week 190 = .ok (.invokevirtual 90, 3) := by decide +kernel
theorem dX8_week_193 : decode cX8_week 193 = .ok (.ifCond .ne 7, 3) := by decide +kernel
theorem dX8_week_196 : decode cX8_week 196 = .ok (.iconst 1, 1) := by decide +kernel
theorem dX8_week_197 : decode cX8_week 197 = .ok (.goto 4, 3) := by decide +kernel
theorem dX8_week_200 : decode cX8_week 200 = .ok (.iconst 0, 1) := by decide +kernel
theorem dX8_week_201 : decode cX8_week 201 = .ok (.iadd, 1) := by decide +kernel
theorem dX8_week_202 : decode cX8_week 202 = .ok (.istore 6, 2) := by decide +kernel
theorem dX8_week_204 : decode cX8_week 204 = .ok (.iinc 7 1, 3) := by decide +kernel
theorem dX8_week_207 : decode cX8_week 207 = .ok (.goto (-68), 3) := by decide +kernel
theorem dX8_week_210 : decode cX8_week 210 = .ok (.iload_n 3, 1) := by decide +kernel
theorem dX8_week_211 : decode cX8_week 211 = .ok (.ifCond .ne 8, 3) := by decide +kernel
theorem dX8_week_214 : decode cX8_week 214 = .ok (.iload 5, 2) := by decide +kernel
theorem dX8_week_216 : decode cX8_week 216 = .ok (.goto 17, 3) := by decide +kernel
theorem dX8_week_219 : decode cX8_week 219 = .ok (.iload_n 3, 1) := by decide +kernel
theorem dX8_week_220 : decode cX8_week 220 = .ok (.iconst 1, 1) := by decide +kernel
theorem dX8_week_221 : decode cX8_week 221 = .ok (.if_icmp .ne 8, 3) := by decide +kernel
theorem dX8_week_224 : decode cX8_week 224 = .ok (.iload 6, 2) := by decide +kernel
theorem dX8_week_226 : decode cX8_week 226 = .ok (.goto 7, 3) := by decide +kernel
theorem dX8_week_229 : decode cX8_week 229 = .ok (.aload_n 0, 1) := by decide +kernel
theorem dX8_week_230 : decode cX8_week 230 = .ok (.getfield 99, 3) := by decide +kernel
theorem dX8_week_233 : decode cX8_week 233 = .ok (.ireturn, 1) := by decide +kernel
theorem dX8_image_0 : decode cX8_image 0 = .ok (.iload_n 1, 1) := by decide +kernel
theorem dX8_image_1 : decode cX8_image 1 = .ok (.iconst 0, 1) := by decide +kernel
theorem dX8_image_2 : decode cX8_image 2 = .ok (.iconst 1, 1) := by decide +kernel
theorem dX8_image_3 : decode cX8_image 3 = .ok (.invokestatic 61, 3) := by decide +kernel
theorem dX8_image_6 : decode cX8_image 6 = .ok (.ifCond .ne 6, 3) := by decide +kernel
theorem dX8_image_9 : decode cX8_image 9 = .ok (.bipush (-2), 2) := by decide +kernel
theorem dX8_image_11 : decode cX8_image 11 = .ok (.ireturn, 1) := by decide +kernel
theorem dX8_image_12 : decode cX8_image 12 = .ok (.bipush 120, 2) := by decide +kernel
theorem dX8_image_14 : decode cX8_image 14 = .ok (.iload_n 1, 1) := by decide +kernel
theorem dX8_image_15 : decode cX8_image 15 = .ok (.imul, 1) := by decide +kernel
theorem dX8_image_16 : decode cX8_image 16 = .ok (.istore_n 2, 1) := by decide +kernel
theorem dX8_image_17 : decode cX8_image 17 = .ok (.iconst 0, 1) := by decide +kernel
theorem dX8_image_18 : decode cX8_image 18 = .ok (.istore_n 3, 1) := by decide +kernel
theorem dX8_image_19 : decode cX8_image 19 = .ok (.iload_n 3, 1) := by decide +kernel
theorem dX8_image_20 : decode cX8_image 20 = .ok (.bipush 26, 2) := by decide +kernel
theorem dX8_image_22 : decode cX8_image 22 = .ok (.if_icmp .ge 23, 3) := by decide +kernel
theorem dX8_image_25 : decode cX8_image 25 = .ok (.aload_n 0, 1) := by decide +kernel
theorem dX8_image_26 : decode cX8_image 26 = .ok (.getfield 50, 3) := by decide +kernel
theorem dX8_image_29 : decode cX8_image 29 = .ok (.iload_n 2, 1) := by decide +kernel
theorem dX8_image_30 : decode cX8_image 30 = .ok (.iload_n 3, 1) := by decide +kernel
theorem dX8_image_31 : decode cX8_image 31 = .ok (.iadd, 1) := by decide +kernel
theorem dX8_image_32 : decode cX8_image 32 = .ok (.aload_n 0, 1) := by decide +kernel
theorem dX8_image_33 : decode cX8_image 33 = .ok (.getfield 7, 3) := by decide +kernel
theorem dX8_image_36 : decode cX8_image 36 = .ok (.iload_n 3, 1) := by decide +kernel
theorem dX8_image_37 : decode cX8_image 37 = .ok (.iaload, 1) := by decide +kernel
theorem dX8_image_38 : decode cX8_image 38 = .ok (.iastore, 1) := by decide +kernel
theorem dX8_image_39 : decode cX8_image 39 = .ok (.iinc 3 1, 3) := by decide +kernel
theorem dX8_image_42 : decode cX8_image 42 = .ok (.goto (-23), 3) := by decide +kernel
theorem dX8_image_45 : decode cX8_image 45 = .ok (.iconst 0, 1) := by decide +kernel
theorem dX8_image_46 : decode cX8_image 46 = .ok (.istore_n 3, 1) := by decide +kernel
theorem dX8_image_47 : decode cX8_image 47 = .ok (.iload_n 3, 1) := by decide +kernel
theorem dX8_image_48 : decode cX8_image 48 = .ok (.bipush 12, 2) := by decide +kernel
theorem dX8_image_50 : decode cX8_image 50 = .ok (.if_icmp .ge 26, 3) := by decide +kernel
theorem dX8_image_53 : decode cX8_image 53 = .ok (.aload_n 0, 1) := by decide +kernel
theorem dX8_image_54 : decode cX8_image 54 = .ok (.getfield 50, 3) := by decide +kernel
theorem dX8_image_57 : decode cX8_image 57 = .ok (.iload_n 2, 1) := by decide +kernel
theorem dX8_image_58 : decode cX8_image 58 = .ok (.bipush 26, 2) := by decide +kernel
theorem dX8_image_60 : decode cX8_image 60 = .ok (.iadd, 1) := by decide +kernel
theorem dX8_image_61 : decode cX8_image 61 = .ok (.iload_n 3, 1) := by decide +kernel
theorem dX8_image_62 : decode cX8_image 62 = .ok (.iadd, 1) := by decide +kernel
theorem dX8_image_63 : decode cX8_image 63 = .ok (.aload_n 0, 1) := by decide +kernel
theorem dX8_image_64 : decode cX8_image 64 = .ok (.getfield 16, 3) := by decide +kernel
theorem dX8_image_67 : decode cX8_image 67 = .ok (.iload_n 3, 1) := by decide +kernel
theorem dX8_image_68 : decode cX8_image 68 = .ok (.iaload, 1) := by decide +kernel
theorem dX8_image_69 : decode cX8_image 69 = .ok (.iastore, 1) := by decide +kernel
theorem dX8_image_70 : decode cX8_image 70 = .ok (.iinc 3 1, 3) := by decide +kernel
theorem dX8_image_73 : decode cX8_image 73 = .ok (.goto (-26), 3) := by decide +kernel
theorem dX8_image_76 : decode cX8_image 76 = .ok (.iconst 0, 1) := by decide +kernel
theorem dX8_image_77 : decode cX8_image 77 = .ok (.istore_n 3, 1) := by decide +kernel
theorem dX8_image_78 : decode cX8_image 78 = .ok (.iload_n 3, 1) := by decide +kernel
theorem dX8_image_79 : decode cX8_image 79 = .ok (.bipush 36, 2) := by decide +kernel
theorem dX8_image_81 : decode cX8_image 81 = .ok (.if_icmp .ge 26, 3) := by decide +kernel
theorem dX8_image_84 : decode cX8_image 84 = .ok (.aload_n 0, 1) := by decide +kernel
theorem dX8_image_85 : decode cX8_image 85 = .ok (.getfield 50, 3) := by decide +kernel
theorem dX8_image_88 : decode cX8_image 88 = .ok (.iload_n 2, 1) := by decide +kernel
theorem dX8_image_89 : decode cX8_image 89 = .ok (.bipush 38, 2) := by decide +kernel
theorem dX8_image_91 : decode cX8_image 91 = .ok (.iadd, 1) := by decide +kernel
theorem dX8_image_92 : decode cX8_image 92 = .ok (.iload_n 3, 1) := by decide +kernel
theorem dX8_image_93 : decode cX8_image 93 = .ok (.iadd, 1) := by decide +kernel
theorem dX8_image_94 : decode cX8_image 94 = .ok (.aload_n 0, 1) := by decide +kernel
theorem dX8_image_95 : decode cX8_image 95 = .ok (.getfield 19, 3) := by decide +kernel
theorem dX8_image_98 : decode cX8_image 98 = .ok (.iload_n 3, 1) := by decide +kernel
theorem dX8_image_99 : decode cX8_image 99 = .ok (.iaload, 1) := by decide +kernel
theorem dX8_image_100 : decode cX8_image 100 = .ok (.iastore, 1) := by decide +kernel
theorem dX8_image_101 : decode cX8_image 101 = .ok (.iinc 3 1, 3) := by decide +kernel
theorem dX8_image_104 : decode cX8_image 104 = .ok (.goto (-26), 3) := by decide +kernel
theorem dX8_image_107 : decode cX8_image 107 = .ok (.iconst 0, 1) := by decide +kernel
theorem dX8_image_108 : decode cX8_image 108 = .ok (.istore_n 3, 1) := by decide +kernel
theorem dX8_image_109 : decode cX8_image 109 = .ok (.iload_n 3, 1) := by decide +kernel
theorem dX8_image_110 : decode cX8_image 110 = .ok (.bipush 6, 2) := by decide +kernel
theorem dX8_image_112 : decode cX8_image 112 = .ok (.if_icmp .ge 26, 3) := by decide +kernel
theorem dX8_image_115 : decode cX8_image 115 = .ok (.aload_n 0, 1) := by decide +kernel
theorem dX8_image_116 : decode cX8_image 116 = .ok (.getfield 50, 3) := by decide +kernel
theorem dX8_image_119 : decode cX8_image 119 = .ok (.iload_n 2, 1) := by decide +kernel
theorem dX8_image_120 : decode cX8_image 120 = .ok (.bipush 74, 2) := by decide +kernel
theorem dX8_image_122 : decode cX8_image 122 = .ok (.iadd, 1) := by decide +kernel
theorem dX8_image_123 : decode cX8_image 123 = .ok (.iload_n 3, 1) := by decide +kernel
theorem dX8_image_124 : decode cX8_image 124 = .ok (.iadd, 1) := by decide +kernel
theorem dX8_image_125 : decode cX8_image 125 = .ok (.aload_n 0, 1) := by decide +kernel
theorem dX8_image_126 : decode cX8_image 126 = .ok (.getfield 22, 3) := by decide +kernel
theorem dX8_image_129 : decode cX8_image 129 = .ok (.iload_n 3, 1) := by decide +kernel
theorem dX8_image_130 : decode cX8_image 130 = .ok (.iaload, 1) := by decide +kernel
theorem dX8_image_131 : decode cX8_image 131 = .ok (.iastore, 1) := by decide +kernel
theorem dX8_image_132 : decode cX8_image 132 = .ok (.iinc 3 1, 3) := by decide +kernel
theorem dX8_image_135 : decode cX8_image 135 = .ok (.goto (-26), 3) := by decide +kernel
theorem dX8_image_138 : decode cX8_image 138 = .ok (.iconst 0, 1) := by decide +kernel
theorem dX8_image_139 : decode cX8_image 139 = .ok (.istore_n 3, 1) := by decide +kernel
theorem dX8_image_140 : decode cX8_image 140 = .ok (.iload_n 3, 1) := by decide +kernel
theorem dX8_image_141 : decode cX8_image 141 = .ok (.bipush 24, 2) := by decide +kernel
theorem dX8_image_143 : decode cX8_image 143 = .ok (.if_icmp .ge 26, 3) := by decide +kernel
theorem dX8_image_146 : decode cX8_image 146 = .ok (.aload_n 0, 1) := by decide +kernel
theorem dX8_image_147 : decode cX8_image 147 = .ok (.getfield 50, 3) := by decide +kernel
theorem dX8_image_150 : decode cX8_image 150 = .ok (.iload_n 2, 1) := by decide +kernel
theorem dX8_image_151 : decode cX8_image 151 = .ok (.bipush 80, 2) := by decide +kernel
theorem dX8_image_153 : decode cX8_image 153 = .ok (.iadd, 1) := by decide +kernel
theorem dX8_image_154 : decode cX8_image 154 = .ok (.iload_n 3, 1) := by decide +kernel
theorem dX8_image_155 : decode cX8_image 155 = .ok (.iadd, 1) := by decide +kernel
theorem dX8_image_156 : decode cX8_image 156 = .ok (.aload_n 0, 1) := by decide +kernel
theorem dX8_image_157 : decode cX8_image 157 = .ok (.getfield 25, 3) := by decide +kernel
theorem dX8_image_160 : decode cX8_image 160 = .ok (.iload_n 3, 1) := by decide +kernel
theorem dX8_image_161 : decode cX8_image 161 = .ok (.iaload, 1) := by decide +kernel
theorem dX8_image_162 : decode cX8_image 162 = .ok (.iastore, 1) := by decide +kernel
theorem dX8_image_163 : decode cX8_image 163 = .ok (.iinc 3 1, 3) := by decide +kernel
theorem dX8_image_166 : decode cX8_image 166 = .ok (.goto (-26), 3) := by decide +kernel
theorem dX8_image_169 : decode cX8_image 169 = .ok (.aload_n 0, 1) := by decide +kernel
theorem dX8_image_170 : decode cX8_image 170 = .ok (.getfield 50, 3) := by decide +kernel
theorem dX8_image_173 : decode cX8_image 173 = .ok (.iload_n 2, 1) := by decide +kernel
theorem dX8_image_174 : decode cX8_image 174 = .ok (.bipush 110, 2) := by decide +kernel
theorem dX8_image_176 : decode cX8_image 176 = .ok (.iadd, 1) := by decide +kernel
theorem dX8_image_177 : decode cX8_image 177 = .ok (.aload_n 0, 1) := by decide +kernel
theorem dX8_image_178 : decode cX8_image 178 = .ok (.getfield 57, 3) := by decide +kernel
theorem dX8_image_181 : decode cX8_image 181 = .ok (.iastore, 1) := by decide +kernel
theorem dX8_image_182 : decode cX8_image 182 = .ok (.aload_n 0, 1) := by decide +kernel
theorem dX8_image_183 : decode cX8_image 183 = .ok (.getfield 50, 3) := by decide +kernel
theorem dX8_image_186 : decode cX8_image 186 = .ok (.iload_n 2, 1) := by decide +kernel
theorem dX8_image_187 : decode cX8_image 187 = .ok (.bipush 111, 2) := by decide +kernel
theorem dX8_image_189 : decode cX8_image 189 = .ok (.iadd, 1) := by decide +kernel
theorem dX8_image_190 : decode cX8_image 190 = .ok (.aload_n 0, 1) := by decide +kernel
theorem dX8_image_191 : decode cX8_image 191 = .ok (.getfield 150, 3) := by decide +kernel
theorem dX8_image_194 : decode cX8_image 194 = .ok (.iastore, 1) := by decide +kernel
theorem dX8_image_195 : decode cX8_image 195 = .ok (.aload_n 0, 1) := by decide +kernel
theorem dX8_image_196 : decode cX8_image 196 = .ok (.getfield 53, 3) := by decide +kernel
theorem dX8_image_199 : decode cX8_image 199 = .ok (.iload_n 1, 1) := by decide +kernel
theorem dX8_image_200 : decode cX8_image 200 = .ok (.iconst 1, 1) := by decide +kernel
theorem dX8_image_201 : decode cX8_image 201 = .ok (.bastore, 1) := by decide +kernel
theorem dX8_image_202 : decode cX8_image 202 = .ok (.iconst 1, 1) := by decide +kernel
theorem dX8_image_203 : decode cX8_image 203 = .ok (.ireturn, 1) := by decide +kernel
theorem dX8_restore_0 : decode cX8_restore 0 = .ok (.iload_n 1, 1) := by decide +kernel
theorem dX8_restore_1 : decode cX8_restore 1 = .ok (.iconst 0, 1) := by decide +kernel
theorem dX8_restore_2 : decode cX8_restore 2 = .ok (.iconst 1, 1) := by decide +kernel
theorem dX8_restore_3 : decode cX8_restore 3 = .ok (.invokestatic 61, 3) := by decide +kernel
theorem dX8_restore_6 : decode cX8_restore 6 = .ok (.ifCond .ne 6, 3) := by decide +kernel
theorem dX8_restore_9 : decode cX8_restore 9 = .ok (.bipush (-2), 2) := by decide +kernel
theorem dX8_restore_11 : decode cX8_restore 11 = .ok (.ireturn, 1) := by decide +kernel
theorem dX8_restore_12 : decode cX8_restore 12 = .ok (.aload_n 0, 1) := by decide +kernel
theorem dX8_restore_13 : decode cX8_restore 13 = .ok (.getfield 53, 3) := by decide +kernel
theorem dX8_restore_16 : decode cX8_restore 16 = .ok (.iload_n 1, 1) := by decide +kernel
theorem dX8_restore_17 : decode cX8_restore 17 = .ok (.baload, 1) := by decide +kernel
theorem dX8_restore_18 : decode cX8_restore 18 = .ok (.ifCond .ne 6, 3) := by decide +kernel
theorem dX8_restore_21 : decode cX8_restore 21 = .ok (.bipush (-3), 2) := by decide +kernel
theorem dX8_restore_23 : decode cX8_restore 23 = .ok (.ireturn, 1) := by decide +kernel
theorem dX8_restore_24 : decode cX8_restore 24 = .ok (.bipush 120, 2) := by decide +kernel
theorem dX8_restore_26 : decode cX8_restore 26 = .ok (.iload_n 1, 1) := by decide +kernel
theorem dX8_restore_27 : decode cX8_restore 27 = .ok (.imul, 1) := by decide +kernel
theorem dX8_restore_28 : decode cX8_restore 28 = .ok (.istore_n 2, 1) := by decide +kernel
theorem dX8_restore_29 : decode cX8_restore 29 = .ok (.iconst 0, 1) := by decide +kernel
theorem dX8_restore_30 : decode cX8_restore 30 = .ok (.istore_n 3, 1) := by decide +kernel
theorem dX8_restore_31 : decode cX8_restore 31 = .ok (.iload_n 3, 1) := by decide +kernel
theorem dX8_restore_32 : decode cX8_restore 32 = .ok (.bipush 26, 2) := by decide +kernel
theorem dX8_restore_34 : decode cX8_restore 34 = .ok (.if_icmp .ge 23, 3) := by decide +kernel
theorem dX8_restore_37 : decode cX8_restore 37 = .ok (.aload_n 0, 1) := by decide +kernel
theorem dX8_restore_38 : decode cX8_restore 38 = .ok (.getfield 7, 3) := by decide +kernel
theorem dX8_restore_41 : decode cX8_restore 41 = .ok (.iload_n 3, 1) := by decide +kernel
theorem dX8_restore_42 : decode cX8_restore 42 = .ok (.aload_n 0, 1) := by decide +kernel
theorem dX8_restore_43 : decode cX8_restore 43 = .ok (.getfield 50, 3) := by decide +kernel
theorem dX8_restore_46 : decode cX8_restore 46 = .ok (.iload_n 2, 1) := by decide +kernel
theorem dX8_restore_47 : decode cX8_restore 47 = .ok (.iload_n 3, 1) := by decide +kernel
theorem dX8_restore_48 : decode cX8_restore 48 = .ok (.iadd, 1) := by decide +kernel
theorem dX8_restore_49 : decode cX8_restore 49 = .ok (.iaload, 1) := by decide +kernel
theorem dX8_restore_50 : decode cX8_restore 50 = .ok (.iastore, 1) := by decide +kernel
theorem dX8_restore_51 : decode cX8_restore 51 = .ok (.iinc 3 1, 3) := by decide +kernel
theorem dX8_restore_54 : decode cX8_restore 54 = .ok (.goto (-23), 3) := by decide +kernel
theorem dX8_restore_57 : decode cX8_restore 57 = .ok (.iconst 0, 1) := by decide +kernel
theorem dX8_restore_58 : decode cX8_restore 58 = .ok (.istore_n 3, 1) := by decide +kernel
theorem dX8_restore_59 : decode cX8_restore 59 = .ok (.iload_n 3, 1) := by decide +kernel
theorem dX8_restore_60 : decode cX8_restore 60 = .ok (.bipush 12, 2) := by decide +kernel
theorem dX8_restore_62 : decode cX8_restore 62 = .ok (.if_icmp .ge 26, 3) := by decide +kernel
theorem dX8_restore_65 : decode cX8_restore 65 = .ok (.aload_n 0, 1) := by decide +kernel
theorem dX8_restore_66 : decode cX8_restore 66 = .ok (.getfield 16, 3) := by decide +kernel
theorem dX8_restore_69 : decode cX8_restore 69 = .ok (.iload_n 3, 1) := by decide +kernel
theorem dX8_restore_70 : decode cX8_restore 70 = .ok (.aload_n 0, 1) := by decide +kernel
theorem dX8_restore_71 : decode cX8_restore 71 = .ok (.getfield 50, 3) := by decide +kernel
theorem dX8_restore_74 : decode cX8_restore 74 = .ok (.iload_n 2, 1) := by decide +kernel
theorem dX8_restore_75 : decode cX8_restore 75 = .ok (.bipush 26, 2) := by decide +kernel
theorem dX8_restore_77 : decode cX8_restore 77 = .ok (.iadd, 1) := by decide +kernel
theorem dX8_restore_78 : decode cX8_restore 78 = .ok (.iload_n 3, 1) := by decide +kernel
theorem dX8_restore_79 : decode cX8_restore 79 = .ok (.iadd, 1) := by decide +kernel
theorem dX8_restore_80 : decode cX8_restore 80 = .ok (.iaload, 1) := by decide +kernel
theorem dX8_restore_81 : decode cX8_restore 81 = .ok (.iastore, 1) := by decide +kernel
theorem dX8_restore_82 : decode cX8_restore 82 = .ok (.iinc 3 1, 3) := by decide +kernel
theorem dX8_restore_85 : decode cX8_restore 85 = .ok (.goto (-26), 3) := by decide +kernel
theorem dX8_restore_88 : decode cX8_restore 88 = .ok (.iconst 0, 1) := by decide +kernel
theorem dX8_restore_89 : decode cX8_restore 89 = .ok (.istore_n 3, 1) := by decide +kernel
theorem dX8_restore_90 : decode cX8_restore 90 = .ok (.iload_n 3, 1) := by decide +kernel
theorem dX8_restore_91 : decode cX8_restore 91 = .ok (.bipush 36, 2) := by decide +kernel
theorem dX8_restore_93 : decode cX8_restore 93 = .ok (.if_icmp .ge 26, 3) := by decide +kernel
theorem dX8_restore_96 : decode cX8_restore 96 = .ok (.aload_n 0, 1) := by decide +kernel
theorem dX8_restore_97 : decode cX8_restore 97 = .ok (.getfield 19, 3) := by decide +kernel
theorem dX8_restore_100 : decode cX8_restore 100 = .ok (.iload_n 3, 1) := by decide +kernel
theorem dX8_restore_101 : decode cX8_restore 101 = .ok (.aload_n 0, 1) := by decide +kernel
theorem dX8_restore_102 : decode cX8_restore 102 = .ok (.getfield 50, 3) := by decide +kernel
theorem dX8_restore_105 : decode cX8_restore 105 = .ok (.iload_n 2, 1) := by decide +kernel
theorem dX8_restore_106 : decode cX8_restore 106 = .ok (.bipush 38, 2) := by decide +kernel
theorem dX8_restore_108 : decode cX8_restore 108 = .ok (.iadd, 1) := by decide +kernel
theorem dX8_restore_109 : decode cX8_restore 109 = .ok (.iload_n 3, 1) := by decide +kernel
theorem dX8_restore_110 : decode cX8_restore 110 = .ok (.iadd, 1) := by decide +kernel
theorem dX8_restore_111 : decode cX8_restore 111 = .ok (.iaload, 1) := by decide +kernel
theorem dX8_restore_112 : decode cX8_restore 112 = .ok (.iastore, 1) := by decide +kernel
theorem dX8_restore_113 : decode cX8_restore 113 = .ok (.iinc 3 1, 3) := by decide +kernel
theorem dX8_restore_116 : decode cX8_restore 116 = .ok (.goto (-26), 3) := by decide +kernel
theorem dX8_restore_119 : decode cX8_restore 119 = .ok (.iconst 0, 1) := by decide +kernel
theorem dX8_restore_120 : decode cX8_restore 120 = .ok (.istore_n 3, 1) := by decide +kernel
theorem dX8_restore_121 : decode cX8_restore 121 = .ok (.iload_n 3, 1) := by decide +kernel
theorem dX8_restore_122 : decode cX8_restore 122 = .ok (.bipush 6, 2) := by decide +kernel
theorem dX8_restore_124 : decode cX8_restore 124 = .ok (.if_icmp .ge 26, 3) := by decide +kernel
theorem dX8_restore_127 : decode cX8_restore 127 = .ok (.aload_n 0, 1) := by decide +kernel
theorem dX8_restore_128 : decode cX8_restore 128 = .ok (.getfield 22, 3) := by decide +kernel
theorem dX8_restore_131 : decode cX8_restore 131 = .ok (.iload_n 3, 1) := by decide +kernel
theorem dX8_restore_132 : decode cX8_restore 132 = .ok (.aload_n 0, 1) := by decide +kernel
theorem dX8_restore_133 : decode cX8_restore 133 = .ok (.getfield 50, 3) := by decide +kernel
theorem dX8_restore_136 : decode cX8_restore 136 = .ok (.iload_n 2, 1) := by decide +kernel
theorem dX8_restore_137 : decode cX8_restore 137 = .ok (.bipush 74, 2) := by decide +kernel
theorem dX8_restore_139 : decode cX8_restore 139 = .ok (.iadd, 1) := by decide +kernel
theorem dX8_restore_140 : decode cX8_restore 140 = .ok (.iload_n 3, 1) := by decide +kernel
theorem dX8_restore_141 : decode cX8_restore 141 = .ok (.iadd, 1) := by decide +kernel
theorem dX8_restore_142 : decode cX8_restore 142 = .ok (.iaload, 1) := by decide +kernel
theorem dX8_restore_143 : decode cX8_restore 143 = .ok (.iastore, 1) := by decide +kernel
theorem dX8_restore_144 : decode cX8_restore 144 = .ok (.iinc 3 1, 3) := by decide +kernel
theorem dX8_restore_147 : decode cX8_restore 147 = .ok (.goto (-26), 3) := by decide +kernel
theorem dX8_restore_150 : decode cX8_restore 150 = .ok (.iconst 0, 1) := by decide +kernel
theorem dX8_restore_151 : decode cX8_restore 151 = .ok (.istore_n 3, 1) := by decide +kernel
theorem dX8_restore_152 : decode cX8_restore 152 = .ok (.iload_n 3, 1) := by decide +kernel
theorem dX8_restore_153 : decode cX8_restore 153 = .ok (.bipush 24, 2) := by decide +kernel
theorem dX8_restore_155 : decode cX8_restore 155 = .ok (.if_icmp .ge 26, 3) := by decide +kernel
theorem dX8_restore_158 : decode cX8_restore 158 = .ok (.aload_n 0, 1) := by decide +kernel
theorem dX8_restore_159 : decode cX8_restore 159 = .ok (.getfield 25, 3) := by decide +kernel
theorem dX8_restore_162 : decode cX8_restore 162 = .ok (.iload_n 3, 1) := by decide +kernel
theorem dX8_restore_163 : decode cX8_restore 163 = .ok (.aload_n 0, 1) := by decide +kernel
theorem dX8_restore_164 : decode cX8_restore 164 = .ok (.getfield 50, 3) := by decide +kernel
theorem dX8_restore_167 : decode cX8_restore 167 = .ok (.iload_n 2, 1) := by decide +kernel
theorem dX8_restore_168 : decode cX8_restore 168 = .ok (.bipush 80, 2) := by decide +kernel
theorem dX8_restore_170 : decode cX8_restore 170 = .ok (.iadd, 1) := by decide +kernel
theorem dX8_restore_171 : decode cX8_restore 171 = .ok (.iload_n 3, 1) := by decide +kernel
theorem dX8_restore_172 : decode cX8_restore 172 = .ok (.iadd, 1) := by decide +kernel
theorem dX8_restore_173 : decode cX8_restore 173 = .ok (.iaload, 1) := by decide +kernel
theorem dX8_restore_174 : decode cX8_restore 174 = .ok (.iastore, 1) := by decide +kernel
theorem dX8_restore_175 : decode cX8_restore 175 = .ok (.iinc 3 1, 3) := by decide +kernel
theorem dX8_restore_178 : decode cX8_restore 178 = .ok (.goto (-26), 3) := by decide +kernel
theorem dX8_restore_181 : decode cX8_restore 181 = .ok (.aload_n 0, 1) := by decide +kernel
theorem dX8_restore_182 : decode cX8_restore 182 = .ok (.aload_n 0, 1) := by decide +kernel
theorem dX8_restore_183 : decode cX8_restore 183 = .ok (.getfield 50, 3) := by decide +kernel
theorem dX8_restore_186 : decode cX8_restore 186 = .ok (.iload_n 2, 1) := by decide +kernel
theorem dX8_restore_187 : decode cX8_restore 187 = .ok (.bipush 110, 2) := by decide +kernel
theorem dX8_restore_189 : decode cX8_restore 189 = .ok (.iadd, 1) := by decide +kernel
theorem dX8_restore_190 : decode cX8_restore 190 = .ok (.iaload, 1) := by decide +kernel
theorem dX8_restore_191 : decode cX8_restore 191 = .ok (.putfield 57, 3) := by decide +kernel
theorem dX8_restore_194 : decode cX8_restore 194 = .ok (.aload_n 0, 1) := by decide +kernel
theorem dX8_restore_195 : decode cX8_restore 195 = .ok (.aload_n 0, 1) := by decide +kernel
theorem dX8_restore_196 : decode cX8_restore 196 = .ok (.getfield 50, 3) := by decide +kernel
theorem dX8_restore_199 : decode cX8_restore 199 = .ok (.iload_n 2, 1) := by decide +kernel
theorem dX8_restore_200 : decode cX8_restore 200 = .ok (.bipush 111, 2) := by decide +kernel
theorem dX8_restore_202 : decode cX8_restore 202 = .ok (.iadd, 1) := by decide +kernel
theorem dX8_restore_203 : decode cX8_restore 203 = .ok (.iaload, 1) := by decide +kernel
theorem dX8_restore_204 : decode cX8_restore 204 = .ok (.putfield 150, 3) := by decide +kernel
theorem dX8_restore_207 : decode cX8_restore 207 = .ok (.iconst 1, 1) := by decide +kernel
theorem dX8_restore_208 : decode cX8_restore 208 = .ok (.ireturn, 1) := by decide +kernel
theorem dX8_told_0 : decode cX8_told 0 = .ok (.iload_n 1, 1) := by decide +kernel
theorem dX8_told_1 : decode cX8_told 1 = .ok (.sipush 600, 3) := by decide +kernel
theorem dX8_told_4 : decode cX8_told 4 = .ok (.if_icmp .lt 32, 3) := by decide +kernel
theorem dX8_told_7 : decode cX8_told 7 = .ok (.iload_n 1, 1) := by decide +kernel
theorem dX8_told_8 : decode cX8_told 8 = .ok (.sipush 600, 3) := by decide +kernel
theorem dX8_told_11 : decode cX8_told 11 = .ok (.sipush 605, 3) := by decide +kernel
theorem dX8_told_14 : decode cX8_told 14 = .ok (.invokestatic 61, 3) := by decide +kernel
theorem dX8_told_17 : decode cX8_told 17 = .ok (.ifCond .eq 16, 3) := by decide +kernel
theorem dX8_told_20 : decode cX8_told 20 = .ok (.aload_n 0, 1) := by decide +kernel
theorem dX8_told_21 : decode cX8_told 21 = .ok (.getfield 22, 3) := by decide +kernel
theorem dX8_told_24 : decode cX8_told 24 = .ok (.iload_n 1, 1) := by decide +kernel
theorem dX8_told_25 : decode cX8_told 25 = .ok (.sipush 600, 3) := by decide +kernel
theorem dX8_told_28 : decode cX8_told 28 = .ok (.isub, 1) := by decide +kernel
theorem dX8_told_29 : decode cX8_told 29 = .ok (.iaload, 1) := by decide +kernel
theorem dX8_told_30 : decode cX8_told 30 = .ok (.goto 5, 3) := by decide +kernel
theorem dX8_told_33 : decode cX8_told 33 = .ok (.bipush (-2), 2) := by decide +kernel
theorem dX8_told_35 : decode cX8_told 35 = .ok (.ireturn, 1) := by decide +kernel
theorem dX8_told_36 : decode cX8_told 36 = .ok (.iload_n 1, 1) := by decide +kernel
theorem dX8_told_37 : decode cX8_told 37 = .ok (.sipush 500, 3) := by decide +kernel
theorem dX8_told_40 : decode cX8_told 40 = .ok (.if_icmp .lt 41, 3) := by decide +kernel
theorem dX8_told_43 : decode cX8_told 43 = .ok (.iload_n 1, 1) := by decide +kernel
theorem dX8_told_44 : decode cX8_told 44 = .ok (.sipush 500, 3) := by decide +kernel
theorem dX8_told_47 : decode cX8_told 47 = .ok (.isub, 1) := by decide +kernel
theorem dX8_told_48 : decode cX8_told 48 = .ok (.istore_n 2, 1) := by decide +kernel
theorem dX8_told_49 : decode cX8_told 49 = .ok (.iload_n 2, 1) := by decide +kernel
theorem dX8_told_50 : decode cX8_told 50 = .ok (.bipush 36, 2) := by decide +kernel
theorem dX8_told_52 : decode cX8_told 52 = .ok (.if_icmp .ge 26, 3) := by decide +kernel
theorem dX8_told_55 : decode cX8_told 55 = .ok (.iload_n 2, 1) := by decide +kernel
theorem dX8_told_56 : decode cX8_told 56 = .ok (.bipush 6, 2) := by decide +kernel
theorem dX8_told_58 : decode cX8_told 58 = .ok (.idiv, 1) := by decide +kernel
theorem dX8_told_59 : decode cX8_told 59 = .ok (.iload_n 2, 1) := by decide +kernel
theorem dX8_told_60 : decode cX8_told 60 = .ok (.bipush 6, 2) := by decide +kernel
theorem dX8_told_62 : decode cX8_told 62 = .ok (.irem, 1) := by decide +kernel
theorem dX8_told_63 : decode cX8_told 63 = .ok (.if_icmp .eq 15, 3) := by decide +kernel
theorem dX8_told_66 : decode cX8_told 66 = .ok (.aload_n 0, 1) := by decide +kernel
theorem dX8_told_67 : decode cX8_told 67 = .ok (.getfield 19, 3) := by decide +kernel
theorem dX8_told_70 : decode cX8_told 70 = .ok (.iload_n 2, 1) := by decide +kernel
theorem dX8_told_71 : decode cX8_told 71 = .ok (.iaload, 1) := by decide +kernel
theorem dX8_told_72 : decode cX8_told 72 = .ok (.bipush 10, 2) := by decide +kernel
theorem dX8_told_74 : decode cX8_told 74 = .ok (.iadd, 1) := by decide +kernel
theorem dX8_told_75 : decode cX8_told 75 = .ok (.goto 5, 3) := by decide +kernel
theorem dX8_told_78 : decode cX8_told 78 = .ok (.bipush (-2), 2) := by decide +kernel
theorem dX8_told_80 : decode cX8_told 80 = .ok (.ireturn, 1) := by decide +kernel
theorem dX8_told_81 : decode cX8_told 81 = .ok (.iload_n 1, 1) := by decide +kernel
theorem dX8_told_82 : decode cX8_told 82 = .ok (.bipush 100, 2) := by decide +kernel
theorem dX8_told_84 : decode cX8_told 84 = .ok (.if_icmp .lt 38, 3) := by decide +kernel
theorem dX8_told_87 : decode cX8_told 87 = .ok (.iload_n 1, 1) := by decide +kernel
theorem dX8_told_88 : decode cX8_told 88 = .ok (.bipush 100, 2) := by decide +kernel
theorem dX8_told_90 : decode cX8_told 90 = .ok (.irem, 1) := by decide +kernel
theorem dX8_told_91 : decode cX8_told 91 = .ok (.iconst 3, 1) := by decide +kernel
theorem dX8_told_92 : decode cX8_told 92 = .ok (.if_icmp .ge 27, 3) := by decide +kernel
theorem dX8_told_95 : decode cX8_told 95 = .ok (.aload_n 0, 1) := by decide +kernel
theorem dX8_told_96 : decode cX8_told 96 = .ok (.getfield 16, 3) := by decide +kernel
theorem dX8_told_99 : decode cX8_told 99 = .ok (.iconst 3, 1) := by decide +kernel
theorem dX8_told_100 : decode cX8_told 100 = .ok (.iload_n 1, 1) := by decide +kernel
theorem dX8_told_101 : decode cX8_told 101 = .ok (.bipush 100, 2) := by decide +kernel
theorem dX8_told_103 : decode cX8_told 103 = .ok (.idiv, 1) := by decide +kernel
theorem dX8_told_104 : decode cX8_told 104 = .ok (.iconst 1, 1) := by decide +kernel
theorem dX8_told_105 : decode cX8_told 105 = .ok (.isub, 1) := by decide +kernel
theorem dX8_told_106 : decode cX8_told 106 = .ok (.imul, 1) := by decide +kernel
theorem dX8_told_107 : decode cX8_told 107 = .ok (.iload_n 1, 1) := by decide +kernel
theorem dX8_told_108 : decode cX8_told 108 = .ok (.bipush 100, 2) := by decide +kernel
theorem dX8_told_110 : decode cX8_told 110 = .ok (.irem, 1) := by decide +kernel
theorem dX8_told_111 : decode cX8_told 111 = .ok (.iadd, 1) := by decide +kernel
theorem dX8_told_112 : decode cX8_told 112 = .ok (.iaload, 1) := by decide +kernel
theorem dX8_told_113 : decode cX8_told 113 = .ok (.bipush 10, 2) := by decide +kernel
theorem dX8_told_115 : decode cX8_told 115 = .ok (.iadd, 1) := by decide +kernel
theorem dX8_told_116 : decode cX8_told 116 = .ok (.goto 5, 3) := by decide +kernel
theorem dX8_told_119 : decode cX8_told 119 = .ok (.bipush (-2), 2) := by decide +kernel
theorem dX8_told_121 : decode cX8_told 121 = .ok (.ireturn, 1) := by decide +kernel
theorem dX8_told_122 : decode cX8_told 122 = .ok (.iload_n 1, 1) := by decide +kernel
theorem dX8_told_123 : decode cX8_told 123 = .ok (.bipush 10, 2) := by decide +kernel
theorem dX8_told_125 : decode cX8_told 125 = .ok (.if_icmp .lt 75, 3) := by decide +kernel
theorem dX8_told_128 : decode cX8_told 128 = .ok (.iload_n 1, 1) := by decide +kernel
theorem dX8_told_129 : decode cX8_told 129 = .ok (.bipush 10, 2) := by decide +kernel
theorem dX8_told_131 : decode cX8_told 131 = .ok (.idiv, 1) := by decide +kernel
theorem dX8_told_132 : decode cX8_told 132 = .ok (.iconst 1, 1) := by decide +kernel
theorem dX8_told_133 : decode cX8_told 133 = .ok (.isub, 1) := by decide +kernel
theorem dX8_told_134 : decode cX8_told 134 = .ok (.istore_n 2, 1) := by decide +kernel
theorem dX8_told_135 : decode cX8_told 135 = .ok (.aload_n 0, 1) := by decide +kernel
theorem dX8_told_136 : decode cX8_told 136 = .ok (.iload_n 2, 1) := by decide +kernel
theorem dX8_told_137 : decode cX8_told 137 = .ok (.invokevirtual 73, 3) := by decide +kernel
theorem dX8_told_140 : decode cX8_told 140 = .ok (.ifCond .eq 15, 3) := by decide +kernel
theorem dX8_told_143 : decode cX8_told 143 = .ok (.iload_n 1, 1) := by decide +kernel
theorem dX8_told_144 : decode cX8_told 144 = .ok (.bipush 10, 2) := by decide +kernel
theorem dX8_told_146 : decode cX8_told 146 = .ok (.irem, 1) := by decide +kernel
theorem dX8_told_147 : decode cX8_told 147 = .ok (.iconst 4, 1) := by decide +kernel
theorem dX8_told_148 : decode cX8_told 148 = .ok (.if_icmp .ge 7, 3) := by decide +kernel
theorem dX8_told_151 : decode cX8_told 151 = .ok (.iconst 1, 1) := by decide +kernel
theorem dX8_told_152 : decode cX8_told 152 = .ok (.goto 4, 3) := by decide +kernel
theorem dX8_told_155 : decode cX8_told 155 = .ok (.iconst 0, 1) := by decide +kernel
theorem dX8_told_156 : decode cX8_told 156 = .ok (.istore_n 3, 1) := by decide +kernel
theorem dX8_told_157 : decode cX8_told 157 = .ok (.iload_n 3, 1) := by decide +kernel
theorem dX8_told_158 : decode cX8_told 158 = .ok (.ifCond .ne 8, 3) := by decide +kernel
theorem dX8_told_161 : decode cX8_told 161 = .ok (.bipush (-2), 2) := by decide +kernel
theorem dX8_told_163 : decode cX8_told 163 = .ok (.goto 36, 3) := by decide +kernel
theorem dX8_told_166 : decode cX8_told 166 = .ok (.iload_n 1, 1) := by decide +kernel
theorem dX8_told_167 : decode cX8_told 167 = .ok (.bipush 10, 2) := by decide +kernel
theorem dX8_told_169 : decode cX8_told 169 = .ok (.irem, 1) := by decide +kernel
theorem dX8_told_170 : decode cX8_told 170 = .ok (.iconst 3, 1) := by decide +kernel
theorem dX8_told_171 : decode cX8_told 171 = .ok (.if_icmp .ne 15, 3) := by decide +kernel
theorem dX8_told_174 : decode cX8_told 174 = .ok (.aload_n 0, 1) := by decide +kernel
theorem dX8_told_175 : decode cX8_told 175 = .ok (.getfield 7, 3) := by decide +kernel
theorem dX8_told_178 : decode cX8_told 178 = .ok (.bipush 18, 2) := by decide +kernel
theorem dX8_told_180 : decode cX8_told 180 = .ok (.iload_n 2, 1) := by decide +kernel
theorem dX8_told_181 : decode cX8_told 181 = .ok (.iadd, 1) := by decide +kernel
theorem dX8_told_182 : decode cX8_told 182 = .ok (.iaload, 1) := by decide +kernel
theorem dX8_told_183 : decode cX8_told 183 = .ok (.goto 16, 3) := by decide +kernel
theorem dX8_told_186 : decode cX8_told 186 = .ok (.aload_n 0, 1) := by decide +kernel
theorem dX8_told_187 : decode cX8_told 187 = .ok (.getfield 7, 3) := by decide +kernel
theorem dX8_told_190 : decode cX8_told 190 = .ok (.iconst 3, 1) := by decide +kernel
theorem dX8_told_191 : decode cX8_told 191 = .ok (.iload_n 2, 1) := by decide +kernel
theorem dX8_told_192 : decode cX8_told 192 = .ok (.imul, 1) := by decide +kernel
theorem dX8_told_193 : decode cX8_told 193 = .ok (.iload_n 1, 1) := by decide +kernel
theorem dX8_told_194 : decode cX8_told 194 = .ok (.bipush 10, 2) := by decide +kernel
theorem dX8_told_196 : decode cX8_told 196 = .ok (.irem, 1) := by decide +kernel
theorem dX8_told_197 : decode cX8_told 197 = .ok (.iadd, 1) := by decide +kernel
theorem dX8_told_198 : decode cX8_told 198 = .ok (.iaload, 1) := by decide +kernel
theorem dX8_told_199 : decode cX8_told 199 = .ok (.ireturn, 1) := by decide +kernel
theorem dX8_told_200 : decode cX8_told 200 = .ok (.iload_n 1, 1) := by decide +kernel
theorem dX8_told_201 : decode cX8_told 201 = .ok (.tableswitch 54 0 3 #[31, 36, 41, 49], 31) := by decide +kernel
theorem dX8_told_232 : decode cX8_told 232 = .ok (.aload_n 0, 1) := by decide +kernel
theorem dX8_told_233 : decode cX8_told 233 = .ok (.getfield 80, 3) := by decide +kernel
theorem dX8_told_236 : decode cX8_told 236 = .ok (.ireturn, 1) := by decide +kernel
theorem dX8_told_237 : decode cX8_told 237 = .ok (.aload_n 0, 1) := by decide +kernel
theorem dX8_told_238 : decode cX8_told 238 = .ok (.getfield 57, 3) := by decide +kernel
theorem dX8_told_241 : decode cX8_told 241 = .ok (.ireturn, 1) := by decide +kernel
theorem dX8_told_242 : decode cX8_told 242 = .ok (.aload_n 0, 1) := by decide +kernel
theorem dX8_told_243 : decode cX8_told 243 = .ok (.getfield 7, 3) := by decide +kernel
theorem dX8_told_246 : decode cX8_told 246 = .ok (.bipush 25, 2) := by decide +kernel
theorem dX8_told_248 : decode cX8_told 248 = .ok (.iaload, 1) := by decide +kernel
theorem dX8_told_249 : decode cX8_told 249 = .ok (.ireturn, 1) := by decide +kernel
theorem dX8_told_250 : decode cX8_told 250 = .ok (.aload_n 0, 1) := by decide +kernel
theorem dX8_told_251 : decode cX8_told 251 = .ok (.getfield 150, 3) := by decide +kernel
theorem dX8_told_254 : decode cX8_told 254 = .ok (.ireturn, 1) := by decide +kernel
theorem dX8_told_255 : decode cX8_told 255 = .ok (.iload_n 1, 1) := by decide +kernel
theorem dX8_told_256 : decode cX8_told 256 = .ok (.iconst 4, 1) := by decide +kernel
theorem dX8_told_257 : decode cX8_told 257 = .ok (.if_icmp .ne 13, 3) := by decide +kernel
theorem dX8_told_260 : decode cX8_told 260 = .ok (.aload_n 0, 1) := by decide +kernel
theorem dX8_told_261 : decode cX8_told 261 = .ok (.getfield 7, 3) := by decide +kernel
theorem dX8_told_264 : decode cX8_told 264 = .ok (.bipush 24, 2) := by decide +kernel
theorem dX8_told_266 : decode cX8_told 266 = .ok (.iaload, 1) := by decide +kernel
theorem dX8_told_267 : decode cX8_told 267 = .ok (.goto 5, 3) := by decide +kernel
theorem dX8_told_270 : decode cX8_told 270 = .ok (.bipush (-2), 2) := by decide +kernel
theorem dX8_told_272 : decode cX8_told 272 = .ok (.ireturn, 1) := by decide +kernel
theorem dJ6_bitCount_0f7a4_0 : decode cJ6_bitCount_0f7a4 0 = .ok (.iload_n 0, 1) := by decide +kernel
theorem dJ6_bitCount_0f7a4_1 : decode cJ6_bitCount_0f7a4 1 = .ok (.iload_n 0, 1) := by decide +kernel
theorem dJ6_bitCount_0f7a4_2 : decode cJ6_bitCount_0f7a4 2 = .ok (.iconst 1, 1) := by decide +kernel
theorem dJ6_bitCount_0f7a4_3 : decode cJ6_bitCount_0f7a4 3 = .ok (.iushr, 1) := by decide +kernel
theorem dJ6_bitCount_0f7a4_4 : decode cJ6_bitCount_0f7a4 4 = .ok (.ldc_w 265, 3) := by decide +kernel
theorem dJ6_bitCount_0f7a4_7 : decode cJ6_bitCount_0f7a4 7 = .ok (.iand, 1) := by decide +kernel
theorem dJ6_bitCount_0f7a4_8 : decode cJ6_bitCount_0f7a4 8 = .ok (.isub, 1) := by decide +kernel
theorem dJ6_bitCount_0f7a4_9 : decode cJ6_bitCount_0f7a4 9 = .ok (.istore_n 0, 1) := by decide +kernel
theorem dJ6_bitCount_0f7a4_10 : decode cJ6_bitCount_0f7a4 10 = .ok (.iload_n 0, 1) := by decide +kernel
theorem dJ6_bitCount_0f7a4_11 : decode cJ6_bitCount_0f7a4 11 = .ok (.ldc_w 266, 3) := by decide +kernel
theorem dJ6_bitCount_0f7a4_14 : decode cJ6_bitCount_0f7a4 14 = .ok (.iand, 1) := by decide +kernel
theorem dJ6_bitCount_0f7a4_15 : decode cJ6_bitCount_0f7a4 15 = .ok (.iload_n 0, 1) := by decide +kernel
theorem dJ6_bitCount_0f7a4_16 : decode cJ6_bitCount_0f7a4 16 = .ok (.iconst 2, 1) := by decide +kernel
theorem dJ6_bitCount_0f7a4_17 : decode cJ6_bitCount_0f7a4 17 = .ok (.iushr, 1) := by decide +kernel
theorem dJ6_bitCount_0f7a4_18 : decode cJ6_bitCount_0f7a4 18 = .ok (.ldc_w 266, 3) := by decide +kernel
theorem dJ6_bitCount_0f7a4_21 : decode cJ6_bitCount_0f7a4 21 = .ok (.iand, 1) := by decide +kernel
theorem dJ6_bitCount_0f7a4_22 : decode cJ6_bitCount_0f7a4 22 = .ok (.iadd, 1) := by decide +kernel
theorem dJ6_bitCount_0f7a4_23 : decode cJ6_bitCount_0f7a4 23 = .ok (.istore_n 0, 1) := by decide +kernel
theorem dJ6_bitCount_0f7a4_24 : decode cJ6_bitCount_0f7a4 24 = .ok (.iload_n 0, 1) := by decide +kernel
theorem dJ6_bitCount_0f7a4_25 : decode cJ6_bitCount_0f7a4 25 = .ok (.iload_n 0, 1) := by decide +kernel
theorem dJ6_bitCount_0f7a4_26 : decode cJ6_bitCount_0f7a4 26 = .ok (.iconst 4, 1) := by decide +kernel
theorem dJ6_bitCount_0f7a4_27 : decode cJ6_bitCount_0f7a4 27 = .ok (.iushr, 1) := by decide +kernel
theorem dJ6_bitCount_0f7a4_28 : decode cJ6_bitCount_0f7a4 28 = .ok (.iadd, 1) := by decide +kernel
theorem dJ6_bitCount_0f7a4_29 : decode cJ6_bitCount_0f7a4 29 = .ok (.ldc_w 267, 3) := by decide +kernel
theorem dJ6_bitCount_0f7a4_32 : decode cJ6_bitCount_0f7a4 32 = .ok (.iand, 1) := by decide +kernel
theorem dJ6_bitCount_0f7a4_33 : decode cJ6_bitCount_0f7a4 33 = .ok (.istore_n 0, 1) := by decide +kernel
theorem dJ6_bitCount_0f7a4_34 : decode cJ6_bitCount_0f7a4 34 = .ok (.iload_n 0, 1) := by decide +kernel
theorem dJ6_bitCount_0f7a4_35 : decode cJ6_bitCount_0f7a4 35 = .ok (.iload_n 0, 1) := by decide +kernel
theorem dJ6_bitCount_0f7a4_36 : decode cJ6_bitCount_0f7a4 36 = .ok (.bipush 8, 2) := by decide +kernel
theorem dJ6_bitCount_0f7a4_38 : decode cJ6_bitCount_0f7a4 38 = .ok (.iushr, 1) := by decide +kernel
theorem dJ6_bitCount_0f7a4_39 : decode cJ6_bitCount_0f7a4 39 = .ok (.iadd, 1) := by decide +kernel
theorem dJ6_bitCount_0f7a4_40 : decode cJ6_bitCount_0f7a4 40 = .ok (.istore_n 0, 1) := by decide +kernel
theorem dJ6_bitCount_0f7a4_41 : decode cJ6_bitCount_0f7a4 41 = .ok (.iload_n 0, 1) := by decide +kernel
theorem dJ6_bitCount_0f7a4_42 : decode cJ6_bitCount_0f7a4 42 = .ok (.iload_n 0, 1) := by decide +kernel
theorem dJ6_bitCount_0f7a4_43 : decode cJ6_bitCount_0f7a4 43 = .ok (.bipush 16, 2) := by decide +kernel
theorem dJ6_bitCount_0f7a4_45 : decode cJ6_bitCount_0f7a4 45 = .ok (.iushr, 1) := by decide +kernel
theorem dJ6_bitCount_0f7a4_46 : decode cJ6_bitCount_0f7a4 46 = .ok (.iadd, 1) := by decide +kernel
theorem dJ6_bitCount_0f7a4_47 : decode cJ6_bitCount_0f7a4 47 = .ok (.istore_n 0, 1) := by decide +kernel
theorem dJ6_bitCount_0f7a4_48 : decode cJ6_bitCount_0f7a4 48 = .ok (.iload_n 0, 1) := by decide +kernel
theorem dJ6_bitCount_0f7a4_49 : decode cJ6_bitCount_0f7a4 49 = .ok (.bipush 63, 2) := by decide +kernel
theorem dJ6_bitCount_0f7a4_51 : decode cJ6_bitCount_0f7a4 51 = .ok (.iand, 1) := by decide +kernel
theorem dJ6_bitCount_0f7a4_52 : decode cJ6_bitCount_0f7a4 52 = .ok (.ireturn, 1) := by decide +kernel
theorem dJ9_abs_067f4_0 : decode cJ9_abs_067f4 0 = .ok (.lload_n 0, 1) := by decide +kernel
theorem dJ9_abs_067f4_1 : decode cJ9_abs_067f4 1 = .ok (.lconst 0, 1) := by decide +kernel
theorem dJ9_abs_067f4_2 : decode cJ9_abs_067f4 2 = .ok (.lcmp, 1) := by decide +kernel
theorem dJ9_abs_067f4_3 : decode cJ9_abs_067f4 3 = .ok (.ifCond .ge 8, 3) := by decide +kernel
theorem dJ9_abs_067f4_6 : decode cJ9_abs_067f4 6 = .ok (.lload_n 0, 1) := by decide +kernel
theorem dJ9_abs_067f4_7 : decode cJ9_abs_067f4 7 = .ok (.lneg, 1) := by decide +kernel
theorem dJ9_abs_067f4_8 : decode cJ9_abs_067f4 8 = .ok (.goto 4, 3) := by decide +kernel
theorem dJ9_abs_067f4_11 : decode cJ9_abs_067f4 11 = .ok (.lload_n 0, 1) := by decide +kernel
theorem dJ9_abs_067f4_12 : decode cJ9_abs_067f4 12 = .ok (.lreturn, 1) := by decide +kernel
theorem dJ9_max_7cf53_0 : decode cJ9_max_7cf53 0 = .ok (.iload_n 0, 1) := by decide +kernel
theorem dJ9_max_7cf53_1 : decode cJ9_max_7cf53 1 = .ok (.iload_n 1, 1) := by decide +kernel
theorem dJ9_max_7cf53_2 : decode cJ9_max_7cf53 2 = .ok (.if_icmp .lt 7, 3) := by decide +kernel
theorem dJ9_max_7cf53_5 : decode cJ9_max_7cf53 5 = .ok (.iload_n 0, 1) := by decide +kernel
theorem dJ9_max_7cf53_6 : decode cJ9_max_7cf53 6 = .ok (.goto 4, 3) := by decide +kernel
theorem dJ9_max_7cf53_9 : decode cJ9_max_7cf53 9 = .ok (.iload_n 1, 1) := by decide +kernel
theorem dJ9_max_7cf53_10 : decode cJ9_max_7cf53 10 = .ok (.ireturn, 1) := by decide +kernel
theorem dJ9_max_f86c9_0 : decode cJ9_max_f86c9 0 = .ok (.lload_n 0, 1) := by decide +kernel
theorem dJ9_max_f86c9_1 : decode cJ9_max_f86c9 1 = .ok (.lload_n 2, 1) := by decide +kernel
theorem dJ9_max_f86c9_2 : decode cJ9_max_f86c9 2 = .ok (.lcmp, 1) := by decide +kernel
theorem dJ9_max_f86c9_3 : decode cJ9_max_f86c9 3 = .ok (.ifCond .lt 7, 3) := by decide +kernel
theorem dJ9_max_f86c9_6 : decode cJ9_max_f86c9 6 = .ok (.lload_n 0, 1) := by decide +kernel
theorem dJ9_max_f86c9_7 : decode cJ9_max_f86c9 7 = .ok (.goto 4, 3) := by decide +kernel
theorem dJ9_max_f86c9_10 : decode cJ9_max_f86c9 10 = .ok (.lload_n 2, 1) := by decide +kernel
theorem dJ9_max_f86c9_11 : decode cJ9_max_f86c9 11 = .ok (.lreturn, 1) := by decide +kernel
theorem dJ9_min_7cf53_0 : decode cJ9_min_7cf53 0 = .ok (.iload_n 0, 1) := by decide +kernel
theorem dJ9_min_7cf53_1 : decode cJ9_min_7cf53 1 = .ok (.iload_n 1, 1) := by decide +kernel
theorem dJ9_min_7cf53_2 : decode cJ9_min_7cf53 2 = .ok (.if_icmp .gt 7, 3) := by decide +kernel
theorem dJ9_min_7cf53_5 : decode cJ9_min_7cf53 5 = .ok (.iload_n 0, 1) := by decide +kernel
theorem dJ9_min_7cf53_6 : decode cJ9_min_7cf53 6 = .ok (.goto 4, 3) := by decide +kernel
theorem dJ9_min_7cf53_9 : decode cJ9_min_7cf53 9 = .ok (.iload_n 1, 1) := by decide +kernel
theorem dJ9_min_7cf53_10 : decode cJ9_min_7cf53 10 = .ok (.ireturn, 1) := by decide +kernel
theorem dL_law_0 : decode cL_law 0 = .ok (.new 7, 3) := by decide +kernel
theorem dL_law_3 : decode cL_law 3 = .ok (.dup, 1) := by decide +kernel
theorem dL_law_4 : decode cL_law 4 = .ok (.invokespecial 9, 3) := by decide +kernel
theorem dL_law_7 : decode cL_law 7 = .ok (.astore_n 1, 1) := by decide +kernel
theorem dL_law_8 : decode cL_law 8 = .ok (.new 10, 3) := by decide +kernel
theorem dL_law_11 : decode cL_law 11 = .ok (.dup, 1) := by decide +kernel
theorem dL_law_12 : decode cL_law 12 = .ok (.invokespecial 12, 3) := by decide +kernel
theorem dL_law_15 : decode cL_law 15 = .ok (.astore_n 2, 1) := by decide +kernel
theorem dL_law_16 : decode cL_law 16 = .ok (.iconst 0, 1) := by decide +kernel
theorem dL_law_17 : decode cL_law 17 = .ok (.istore_n 3, 1) := by decide +kernel
theorem dL_law_18 : decode cL_law 18 = .ok (.iload_n 3, 1) := by decide +kernel
theorem dL_law_19 : decode cL_law 19 = .ok (.aload_n 0, 1) := by decide +kernel
theorem dL_law_20 : decode cL_law 20 = .ok (.arraylength, 1) := by decide +kernel
theorem dL_law_21 : decode cL_law 21 = .ok (.bipush 7, 2) := by decide +kernel
theorem dL_law_23 : decode cL_law 23 = .ok (.isub, 1) := by decide +kernel
theorem dL_law_24 : decode cL_law 24 = .ok (.if_icmp .gt 1064, 3) := by decide +kernel
theorem dL_law_27 : decode cL_law 27 = .ok (.aload_n 0, 1) := by decide +kernel
theorem dL_law_28 : decode cL_law 28 = .ok (.iload_n 3, 1) := by decide +kernel
theorem dL_law_29 : decode cL_law 29 = .ok (.iaload, 1) := by decide +kernel
theorem dL_law_30 : decode cL_law 30 = .ok (.bipush 31, 2) := by decide +kernel
theorem dL_law_32 : decode cL_law 32 = .ok (.iand, 1) := by decide +kernel
theorem dL_law_33 : decode cL_law 33 = .ok (.tableswitch 1049 0 29 #[135, 188, 211, 254, 297, 330, 353, 366, 379, 402, 415, 448, 471, 484, 507, 540, 563, 606, 639, 662, 705, 718, 741, 764, 840, 873, 937, 980, 1003, 1026], 135) := by decide +kernel
theorem dL_law_168 : decode cL_law 168 = .ok (.aload_n 1, 1) := by decide +kernel
theorem dL_law_169 : decode cL_law 169 = .ok (.aload_n 0, 1) := by decide +kernel
theorem dL_law_170 : decode cL_law 170 = .ok (.iload_n 3, 1) := by decide +kernel
theorem dL_law_171 : decode cL_law 171 = .ok (.iconst 1, 1) := by decide +kernel
theorem dL_law_172 : decode cL_law 172 = .ok (.iadd, 1) := by decide +kernel
theorem dL_law_173 : decode cL_law 173 = .ok (.iaload, 1) := by decide +kernel
theorem dL_law_174 : decode cL_law 174 = .ok (.aload_n 0, 1) := by decide +kernel
theorem dL_law_175 : decode cL_law 175 = .ok (.iload_n 3, 1) := by decide +kernel
theorem dL_law_176 : decode cL_law 176 = .ok (.iconst 2, 1) := by decide +kernel
theorem dL_law_177 : decode cL_law 177 = .ok (.iadd, 1) := by decide +kernel
theorem dL_law_178 : decode cL_law 178 = .ok (.iaload, 1) := by decide +kernel
theorem dL_law_179 : decode cL_law 179 = .ok (.aload_n 0, 1) := by decide +kernel
theorem dL_law_180 : decode cL_law 180 = .ok (.iload_n 3, 1) := by decide +kernel
theorem dL_law_181 : decode cL_law 181 = .ok (.iconst 3, 1) := by decide +kernel
theorem dL_law_182 : decode cL_law 182 = .ok (.iadd, 1) := by decide +kernel
theorem dL_law_183 : decode cL_law 183 = .ok (.iaload, 1) := by decide +kernel
theorem dL_law_184 : decode cL_law 184 = .ok (.aload_n 0, 1) := by decide +kernel
theorem dL_law_185 : decode cL_law 185 = .ok (.iload_n 3, 1) := by decide +kernel
theorem dL_law_186 : decode cL_law 186 = .ok (.iconst 4, 1) := by decide +kernel
theorem dL_law_187 : decode cL_law 187 = .ok (.iadd, 1) := by decide +kernel
theorem dL_law_188 : decode cL_law 188 = .ok (.iaload, 1) := by decide +kernel
theorem dL_law_189 : decode cL_law 189 = .ok (.invokevirtual 13, 3) := by decide +kernel
theorem dL_law_192 : decode cL_law 192 = .ok (.aload_n 2, 1) := by decide +kernel
theorem dL_law_193 : decode cL_law 193 = .ok (.aload_n 0, 1) := by decide +kernel
theorem dL_law_194 : decode cL_law 194 = .ok (.iload_n 3, 1) := by decide +kernel
theorem dL_law_195 : decode cL_law 195 = .ok (.iconst 1, 1) := by decide +kernel
theorem dL_law_196 : decode cL_law 196 = .ok (.iadd, 1) := by decide +kernel
theorem dL_law_197 : decode cL_law 197 = .ok (.iaload, 1) := by decide +kernel
theorem dL_law_198 : decode cL_law 198 = .ok (.aload_n 0, 1) := by decide +kernel
theorem dL_law_199 : decode cL_law 199 = .ok (.iload_n 3, 1) := by decide +kernel
theorem dL_law_200 : decode cL_law 200 = .ok (.iconst 2, 1) := by decide +kernel
theorem dL_law_201 : decode cL_law 201 = .ok (.iadd, 1) := by decide +kernel
theorem dL_law_202 : decode cL_law 202 = .ok (.iaload, 1) := by decide +kernel
theorem dL_law_203 : decode cL_law 203 = .ok (.aload_n 0, 1) := by decide +kernel
theorem dL_law_204 : decode cL_law 204 = .ok (.iload_n 3, 1) := by decide +kernel
theorem dL_law_205 : decode cL_law 205 = .ok (.iconst 3, 1) := by decide +kernel
theorem dL_law_206 : decode cL_law 206 = .ok (.iadd, 1) := by decide +kernel
theorem dL_law_207 : decode cL_law 207 = .ok (.iaload, 1) := by decide +kernel
theorem dL_law_208 : decode cL_law 208 = .ok (.aload_n 0, 1) := by decide +kernel
theorem dL_law_209 : decode cL_law 209 = .ok (.iload_n 3, 1) := by decide +kernel
theorem dL_law_210 : decode cL_law 210 = .ok (.iconst 4, 1) := by decide +kernel
theorem dL_law_211 : decode cL_law 211 = .ok (.iadd, 1) := by decide +kernel
theorem dL_law_212 : decode cL_law 212 = .ok (.iaload, 1) := by decide +kernel
theorem dL_law_213 : decode cL_law 213 = .ok (.invokevirtual 17, 3) := by decide +kernel
theorem dL_law_216 : decode cL_law 216 = .ok (.if_icmp .eq 866, 3) := by decide +kernel
theorem dL_law_219 : decode cL_law 219 = .ok (.iconst 0, 1) := by decide +kernel
theorem dL_law_220 : decode cL_law 220 = .ok (.ireturn, 1) := by decide +kernel
theorem dL_law_221 : decode cL_law 221 = .ok (.aload_n 1, 1) := by decide +kernel
theorem dL_law_222 : decode cL_law 222 = .ok (.aload_n 0, 1) := by decide +kernel
theorem dL_law_223 : decode cL_law 223 = .ok (.iload_n 3, 1) := by decide +kernel
theorem dL_law_224 : decode cL_law 224 = .ok (.iconst 1, 1) := by decide +kernel
theorem dL_law_225 : decode cL_law 225 = .ok (.iadd, 1) := by decide +kernel
theorem dL_law_226 : decode cL_law 226 = .ok (.iaload, 1) := by decide +kernel
theorem dL_law_227 : decode cL_law 227 = .ok (.invokevirtual 18, 3) := by decide +kernel
theorem dL_law_230 : decode cL_law 230 = .ok (.aload_n 2, 1) := by decide +kernel
theorem dL_law_231 : decode cL_law 231 = .ok (.aload_n 0, 1) := by decide +kernel
theorem dL_law_232 : decode cL_law 232 = .ok (.iload_n 3, 1) := by decide +kernel
theorem dL_law_233 : decode cL_law 233 = .ok (.iconst 1, 1) := by decide +kernel
theorem dL_law_234 : decode cL_law 234 = .ok (.iadd, 1) := by decide +kernel
theorem dL_law_235 : decode cL_law 235 = .ok (.iaload, 1) := by decide +kernel
theorem dL_law_236 : decode cL_law 236 = .ok (.invokevirtual 22, 3) := by decide +kernel
theorem dL_law_239 : decode cL_law 239 = .ok (.if_icmp .eq 843, 3) := by decide +kernel
theorem dL_law_242 : decode cL_law 242 = .ok (.iconst 0, 1) := by decide +kernel
theorem dL_law_243 : decode cL_law 243 = .ok (.ireturn, 1) := by decide +kernel
theorem dL_law_244 : decode cL_law 244 = .ok (.aload_n 1, 1) := by decide +kernel
theorem dL_law_245 : decode cL_law 245 = .ok (.aload_n 0, 1) := by decide +kernel
theorem dL_law_246 : decode cL_law 246 = .ok (.iload_n 3, 1) := by decide +kernel
theorem dL_law_247 : decode cL_law 247 = .ok (.iconst 1, 1) := by decide +kernel
theorem dL_law_248 : decode cL_law 248 = .ok (.iadd, 1) := by decide +kernel
theorem dL_law_249 : decode cL_law 249 = .ok (.iaload, 1) := by decide +kernel
theorem dL_law_250 : decode cL_law 250 = .ok (.aload_n 0, 1) := by decide +kernel
theorem dL_law_251 : decode cL_law 251 = .ok (.iload_n 3, 1) := by decide +kernel
theorem dL_law_252 : decode cL_law 252 = .ok (.iconst 2, 1) := by decide +kernel
theorem dL_law_253 : decode cL_law 253 = .ok (.iadd, 1) := by decide +kernel
theorem dL_law_254 : decode cL_law 254 = .ok (.iaload, 1) := by decide +kernel
theorem dL_law_255 : decode cL_law 255 = .ok (.aload_n 0, 1) := by decide +kernel
theorem dL_law_256 : decode cL_law 256 = .ok (.iload_n 3, 1) := by decide +kernel
theorem dL_law_257 : decode cL_law 257 = .ok (.iconst 3, 1) := by decide +kernel
theorem dL_law_258 : decode cL_law 258 = .ok (.iadd, 1) := by decide +kernel
theorem dL_law_259 : decode cL_law 259 = .ok (.iaload, 1) := by decide +kernel
theorem dL_law_260 : decode cL_law 260 = .ok (.invokevirtual 23, 3) := by decide +kernel
theorem dL_law_263 : decode cL_law 263 = .ok (.aload_n 2, 1) := by decide +kernel
theorem dL_law_264 : decode cL_law 264 = .ok (.aload_n 0, 1) := by decide +kernel
theorem dL_law_265 : decode cL_law 265 = .ok (.iload_n 3, 1) := by decide +kernel
theorem dL_law_266 : decode cL_law 266 = .ok (.iconst 1, 1) := by decide +kernel
theorem dL_law_267 : decode cL_law 267 = .ok (.iadd, 1) := by decide +kernel
theorem dL_law_268 : decode cL_law 268 = .ok (.iaload, 1) := by decide +kernel
theorem dL_law_269 : decode cL_law 269 = .ok (.aload_n 0, 1) := by decide +kernel
theorem dL_law_270 : decode cL_law 270 = .ok (.iload_n 3, 1) := by decide +kernel
theorem dL_law_271 : decode cL_law 271 = .ok (.iconst 2, 1) := by decide +kernel
theorem dL_law_272 : decode cL_law 272 = .ok (.iadd, 1) := by decide +kernel
theorem dL_law_273 : decode cL_law 273 = .ok (.iaload, 1) := by decide +kernel
theorem dL_law_274 : decode cL_law 274 = .ok (.aload_n 0, 1) := by decide +kernel
theorem dL_law_275 : decode cL_law 275 = .ok (.iload_n 3, 1) := by decide +kernel
theorem dL_law_276 : decode cL_law 276 = .ok (.iconst 3, 1) := by decide +kernel
theorem dL_law_277 : decode cL_law 277 = .ok (.iadd, 1) := by decide +kernel
theorem dL_law_278 : decode cL_law 278 = .ok (.iaload, 1) := by decide +kernel
theorem dL_law_279 : decode cL_law 279 = .ok (.invokevirtual 27, 3) := by decide +kernel
theorem dL_law_282 : decode cL_law 282 = .ok (.if_icmp .eq 800, 3) := by decide +kernel
theorem dL_law_285 : decode cL_law 285 = .ok (.iconst 0, 1) := by decide +kernel
theorem dL_law_286 : decode cL_law 286 = .ok (.ireturn, 1) := by decide +kernel
theorem dL_law_287 : decode cL_law 287 = .ok (.aload_n 1, 1) := by decide +kernel
theorem dL_law_288 : decode cL_law 288 = .ok (.aload_n 0, 1) := by decide +kernel
theorem dL_law_289 : decode cL_law 289 = .ok (.iload_n 3, 1) := by decide +kernel
theorem dL_law_290 : decode cL_law 290 = .ok (.iconst 1, 1) := by decide +kernel
theorem dL_law_291 : decode cL_law 291 = .ok (.iadd, 1) := by decide +kernel
theorem dL_law_292 : decode cL_law 292 = .ok (.iaload, 1) := by decide +kernel
theorem dL_law_293 : decode cL_law 293 = .ok (.aload_n 0, 1) := by decide +kernel
theorem dL_law_294 : decode cL_law 294 = .ok (.iload_n 3, 1) := by decide +kernel
theorem dL_law_295 : decode cL_law 295 = .ok (.iconst 2, 1) := by decide +kernel
theorem dL_law_296 : decode cL_law 296 = .ok (.iadd, 1) := by decide +kernel
theorem dL_law_297 : decode cL_law 297 = .ok (.iaload, 1) := by decide +kernel
theorem dL_law_298 : decode cL_law 298 = .ok (.aload_n 0, 1) := by decide +kernel
theorem dL_law_299 : decode cL_law 299 = .ok (.iload_n 3, 1) := by decide +kernel
theorem dL_law_300 : decode cL_law 300 = .ok (.iconst 3, 1) := by decide +kernel
theorem dL_law_301 : decode cL_law 301 = .ok (.iadd, 1) := by decide +kernel
theorem dL_law_302 : decode cL_law 302 = .ok (.iaload, 1) := by decide +kernel
theorem dL_law_303 : decode cL_law 303 = .ok (.invokevirtual 28, 3) := by decide +kernel
theorem dL_law_306 : decode cL_law 306 = .ok (.aload_n 2, 1) := by decide +kernel
theorem dL_law_307 : decode cL_law 307 = .ok (.aload_n 0, 1) := by decide +kernel
theorem dL_law_308 : decode cL_law 308 = .ok (.iload_n 3, 1) := by decide +kernel
theorem dL_law_309 : decode cL_law 309 = .ok (.iconst 1, 1) := by decide +kernel
theorem dL_law_310 : decode cL_law 310 = .ok (.iadd, 1) := by decide +kernel
theorem dL_law_311 : decode cL_law 311 = .ok (.iaload, 1) := by decide +kernel
theorem dL_law_312 : decode cL_law 312 = .ok (.aload_n 0, 1) := by decide +kernel
theorem dL_law_313 : decode cL_law 313 = .ok (.iload_n 3, 1) := by decide +kernel
theorem dL_law_314 : decode cL_law 314 = .ok (.iconst 2, 1) := by decide +kernel
theorem dL_law_315 : decode cL_law 315 = .ok (.iadd, 1) := by decide +kernel
theorem dL_law_316 : decode cL_law 316 = .ok (.iaload, 1) := by decide +kernel
theorem dL_law_317 : decode cL_law 317 = .ok (.aload_n 0, 1) := by decide +kernel
theorem dL_law_318 : decode cL_law 318 = .ok (.iload_n 3, 1) := by decide +kernel
theorem dL_law_319 : decode cL_law 319 = .ok (.iconst 3, 1) := by decide +kernel
theorem dL_law_320 : decode cL_law 320 = .ok (.iadd, 1) := by decide +kernel
theorem dL_law_321 : decode cL_law 321 = .ok (.iaload, 1) := by decide +kernel
theorem dL_law_322 : decode cL_law 322 = .ok (.invokevirtual 31, 3) := by decide +kernel
theorem dL_law_325 : decode cL_law 325 = .ok (.if_icmp .eq 757, 3) := by decide +kernel
theorem dL_law_328 : decode cL_law 328 = .ok (.iconst 0, 1) := by decide +kernel
theorem dL_law_329 : decode cL_law 329 = .ok (.ireturn, 1) := by decide +kernel
theorem dL_law_330 : decode cL_law 330 = .ok (.aload_n 1, 1) := by decide +kernel
theorem dL_law_331 : decode cL_law 331 = .ok (.aload_n 0, 1) := by decide +kernel
theorem dL_law_332 : decode cL_law 332 = .ok (.iload_n 3, 1) := by decide +kernel
theorem dL_law_333 : decode cL_law 333 = .ok (.iconst 1, 1) := by decide +kernel
theorem dL_law_334 : decode cL_law 334 = .ok (.iadd, 1) := by decide +kernel
theorem dL_law_335 : decode cL_law 335 = .ok (.iaload, 1) := by decide +kernel
theorem dL_law_336 : decode cL_law 336 = .ok (.aload_n 0, 1) := by decide +kernel
theorem dL_law_337 : decode cL_law 337 = .ok (.iload_n 3, 1) := by decide +kernel
theorem dL_law_338 : decode cL_law 338 = .ok (.iconst 2, 1) := by decide +kernel
theorem dL_law_339 : decode cL_law 339 = .ok (.iadd, 1) := by decide +kernel
theorem dL_law_340 : decode cL_law 340 = .ok (.iaload, 1) := by decide +kernel
theorem dL_law_341 : decode cL_law 341 = .ok (.invokevirtual 32, 3) := by decide +kernel
theorem dL_law_344 : decode cL_law 344 = .ok (.aload_n 2, 1) := by decide +kernel
theorem dL_law_345 : decode cL_law 345 = .ok (.aload_n 0, 1) := by decide +kernel
theorem dL_law_346 : decode cL_law 346 = .ok (.iload_n 3, 1) := by decide +kernel
theorem dL_law_347 : decode cL_law 347 = .ok (.iconst 1, 1) := by decide +kernel
theorem dL_law_348 : decode cL_law 348 = .ok (.iadd, 1) := by decide +kernel
theorem dL_law_349 : decode cL_law 349 = .ok (.iaload, 1) := by decide +kernel
theorem dL_law_350 : decode cL_law 350 = .ok (.aload_n 0, 1) := by decide +kernel
theorem dL_law_351 : decode cL_law 351 = .ok (.iload_n 3, 1) := by decide +kernel
theorem dL_law_352 : decode cL_law 352 = .ok (.iconst 2, 1) := by decide +kernel
theorem dL_law_353 : decode cL_law 353 = .ok (.iadd, 1) := by decide +kernel
theorem dL_law_354 : decode cL_law 354 = .ok (.iaload, 1) := by decide +kernel
theorem dL_law_355 : decode cL_law 355 = .ok (.invokevirtual 36, 3) := by decide +kernel
theorem dL_law_358 : decode cL_law 358 = .ok (.if_icmp .eq 724, 3) := by decide +kernel
theorem dL_law_361 : decode cL_law 361 = .ok (.iconst 0, 1) := by decide +kernel
theorem dL_law_362 : decode cL_law 362 = .ok (.ireturn, 1) := by decide +kernel
theorem dL_law_363 : decode cL_law 363 = .ok (.aload_n 1, 1) := by decide +kernel
theorem dL_law_364 : decode cL_law 364 = .ok (.aload_n 0, 1) := by decide +kernel
theorem dL_law_365 : decode cL_law 365 = .ok (.iload_n 3, 1) := by decide +kernel
theorem dL_law_366 : decode cL_law 366 = .ok (.iconst 1, 1) := by decide +kernel
theorem dL_law_367 : decode cL_law 367 = .ok (.iadd, 1) := by decide +kernel
theorem dL_law_368 : decode cL_law 368 = .ok (.iaload, 1) := by decide +kernel
theorem dL_law_369 : decode cL_law 369 = .ok (.invokevirtual 37, 3) := by decide +kernel
theorem dL_law_372 : decode cL_law 372 = .ok (.aload_n 2, 1) := by decide +kernel
theorem dL_law_373 : decode cL_law 373 = .ok (.aload_n 0, 1) := by decide +kernel
theorem dL_law_374 : decode cL_law 374 = .ok (.iload_n 3, 1) := by decide +kernel
theorem dL_law_375 : decode cL_law 375 = .ok (.iconst 1, 1) := by decide +kernel
theorem dL_law_376 : decode cL_law 376 = .ok (.iadd, 1) := by decide +kernel
theorem dL_law_377 : decode cL_law 377 = .ok (.iaload, 1) := by decide +kernel
theorem dL_law_378 : decode cL_law 378 = .ok (.invokevirtual 40, 3) := by decide +kernel
theorem dL_law_381 : decode cL_law 381 = .ok (.if_icmp .eq 701, 3) := by decide +kernel
theorem dL_law_384 : decode cL_law 384 = .ok (.iconst 0, 1) := by decide +kernel
theorem dL_law_385 : decode cL_law 385 = .ok (.ireturn, 1) := by decide +kernel
theorem dL_law_386 : decode cL_law 386 = .ok (.aload_n 1, 1) := by decide +kernel
theorem dL_law_387 : decode cL_law 387 = .ok (.invokevirtual 41, 3) := by decide +kernel
theorem dL_law_390 : decode cL_law 390 = .ok (.aload_n 2, 1) := by decide +kernel
theorem dL_law_391 : decode cL_law 391 = .ok (.invokevirtual 45, 3) := by decide +kernel
theorem dL_law_394 : decode cL_law 394 = .ok (.if_icmp .eq 688, 3) := by decide +kernel
theorem dL_law_397 : decode cL_law 397 = .ok (.iconst 0, 1) := by decide +kernel
theorem dL_law_398 : decode cL_law 398 = .ok (.ireturn, 1) := by decide +kernel
theorem dL_law_399 : decode cL_law 399 = .ok (.aload_n 1, 1) := by decide +kernel
theorem dL_law_400 : decode cL_law 400 = .ok (.invokevirtual 46, 3) := by decide +kernel
theorem dL_law_403 : decode cL_law 403 = .ok (.aload_n 2, 1) := by decide +kernel
theorem dL_law_404 : decode cL_law 404 = .ok (.invokevirtual 49, 3) := by decide +kernel
theorem dL_law_407 : decode cL_law 407 = .ok (.if_icmp .eq 675, 3) := by decide +kernel
theorem dL_law_410 : decode cL_law 410 = .ok (.iconst 0, 1) := by decide +kernel
theorem dL_law_411 : decode cL_law 411 = .ok (.ireturn, 1) := by decide +kernel
theorem dL_law_412 : decode cL_law 412 = .ok (.aload_n 1, 1) := by decide +kernel
theorem dL_law_413 : decode cL_law 413 = .ok (.aload_n 0, 1) := by decide +kernel
theorem dL_law_414 : decode cL_law 414 = .ok (.iload_n 3, 1) := by decide +kernel
theorem dL_law_415 : decode cL_law 415 = .ok (.iconst 1, 1) := by decide +kernel
theorem dL_law_416 : decode cL_law 416 = .ok (.iadd, 1) := by decide +kernel
theorem dL_law_417 : decode cL_law 417 = .ok (.iaload, 1) := by decide +kernel
theorem dL_law_418 : decode cL_law 418 = .ok (.invokevirtual 50, 3) := by decide +kernel
theorem dL_law_421 : decode cL_law 421 = .ok (.aload_n 2, 1) := by decide +kernel
theorem dL_law_422 : decode cL_law 422 = .ok (.aload_n 0, 1) := by decide +kernel
theorem dL_law_423 : decode cL_law 423 = .ok (.iload_n 3, 1) := by decide +kernel
theorem dL_law_424 : decode cL_law 424 = .ok (.iconst 1, 1) := by decide +kernel
theorem dL_law_425 : decode cL_law 425 = .ok (.iadd, 1) := by decide +kernel
theorem dL_law_426 : decode cL_law 426 = .ok (.iaload, 1) := by decide +kernel
theorem dL_law_427 : decode cL_law 427 = .ok (.invokevirtual 53, 3) := by decide +kernel
theorem dL_law_430 : decode cL_law 430 = .ok (.if_icmp .eq 652, 3) := by decide +kernel
theorem dL_law_433 : decode cL_law 433 = .ok (.iconst 0, 1) := by decide +kernel
theorem dL_law_434 : decode cL_law 434 = .ok (.ireturn, 1) := by decide +kernel
theorem dL_law_435 : decode cL_law 435 = .ok (.aload_n 1, 1) := by decide +kernel
theorem dL_law_436 : decode cL_law 436 = .ok (.invokevirtual 54, 3) := by decide +kernel
theorem dL_law_439 : decode cL_law 439 = .ok (.aload_n 2, 1) := by decide +kernel
theorem dL_law_440 : decode cL_law 440 = .ok (.invokevirtual 57, 3) := by decide +kernel
theorem dL_law_443 : decode cL_law 443 = .ok (.if_icmp .eq 639, 3) := by decide +kernel
theorem dL_law_446 : decode cL_law 446 = .ok (.iconst 0, 1) := by decide +kernel
theorem dL_law_447 : decode cL_law 447 = .ok (.ireturn, 1) := by decide +kernel
theorem dL_law_448 : decode cL_law 448 = .ok (.aload_n 1, 1) := by decide +kernel
theorem dL_law_449 : decode cL_law 449 = .ok (.aload_n 0, 1) := by decide +kernel
theorem dL_law_450 : decode cL_law 450 = .ok (.iload_n 3, 1) := by decide +kernel
theorem dL_law_451 : decode cL_law 451 = .ok (.iconst 1, 1) := by decide +kernel
theorem dL_law_452 : decode cL_law 452 = .ok (.iadd, 1) := by decide +kernel
theorem dL_law_453 : decode cL_law 453 = .ok (.iaload, 1) := by decide +kernel
theorem dL_law_454 : decode cL_law 454 = .ok (.aload_n 0, 1) := by decide +kernel
theorem dL_law_455 : decode cL_law 455 = .ok (.iload_n 3, 1) := by decide +kernel
theorem dL_law_456 : decode cL_law 456 = .ok (.iconst 2, 1) := by decide +kernel
theorem dL_law_457 : decode cL_law 457 = .ok (.iadd, 1) := by decide +kernel
theorem dL_law_458 : decode cL_law 458 = .ok (.iaload, 1) := by decide +kernel
theorem dL_law_459 : decode cL_law 459 = .ok (.invokevirtual 58, 3) := by decide +kernel
theorem dL_law_462 : decode cL_law 462 = .ok (.aload_n 2, 1) := by decide +kernel
theorem dL_law_463 : decode cL_law 463 = .ok (.aload_n 0, 1) := by decide +kernel
theorem dL_law_464 : decode cL_law 464 = .ok (.iload_n 3, 1) := by decide +kernel
theorem dL_law_465 : decode cL_law 465 = .ok (.iconst 1, 1) := by decide +kernel
theorem dL_law_466 : decode cL_law 466 = .ok (.iadd, 1) := by decide +kernel
theorem dL_law_467 : decode cL_law 467 = .ok (.iaload, 1) := by decide +kernel
theorem dL_law_468 : decode cL_law 468 = .ok (.aload_n 0, 1) := by decide +kernel
theorem dL_law_469 : decode cL_law 469 = .ok (.iload_n 3, 1) := by decide +kernel
theorem dL_law_470 : decode cL_law 470 = .ok (.iconst 2, 1) := by decide +kernel
theorem dL_law_471 : decode cL_law 471 = .ok (.iadd, 1) := by decide +kernel
theorem dL_law_472 : decode cL_law 472 = .ok (.iaload, 1) := by decide +kernel
theorem dL_law_473 : decode cL_law 473 = .ok (.invokevirtual 61, 3) := by decide +kernel
theorem dL_law_476 : decode cL_law 476 = .ok (.if_icmp .eq 606, 3) := by decide +kernel
theorem dL_law_479 : decode cL_law 479 = .ok (.iconst 0, 1) := by decide +kernel
theorem dL_law_480 : decode cL_law 480 = .ok (.ireturn, 1) := by decide +kernel
theorem dL_law_481 : decode cL_law 481 = .ok (.aload_n 1, 1) := by decide +kernel
theorem dL_law_482 : decode cL_law 482 = .ok (.aload_n 0, 1) := by decide +kernel
theorem dL_law_483 : decode cL_law 483 = .ok (.iload_n 3, 1) := by decide +kernel
theorem dL_law_484 : decode cL_law 484 = .ok (.iconst 1, 1) := by decide +kernel
theorem dL_law_485 : decode cL_law 485 = .ok (.iadd, 1) := by decide +kernel
theorem dL_law_486 : decode cL_law 486 = .ok (.iaload, 1) := by decide +kernel
theorem dL_law_487 : decode cL_law 487 = .ok (.invokevirtual 62, 3) := by decide +kernel
theorem dL_law_490 : decode cL_law 490 = .ok (.aload_n 2, 1) := by decide +kernel
theorem dL_law_491 : decode cL_law 491 = .ok (.aload_n 0, 1) := by decide +kernel
theorem dL_law_492 : decode cL_law 492 = .ok (.iload_n 3, 1) := by decide +kernel
theorem dL_law_493 : decode cL_law 493 = .ok (.iconst 1, 1) := by decide +kernel
theorem dL_law_494 : decode cL_law 494 = .ok (.iadd, 1) := by decide +kernel
theorem dL_law_495 : decode cL_law 495 = .ok (.iaload, 1) := by decide +kernel
theorem dL_law_496 : decode cL_law 496 = .ok (.invokevirtual 65, 3) := by decide +kernel
theorem dL_law_499 : decode cL_law 499 = .ok (.if_icmp .eq 583, 3) := by decide +kernel
theorem dL_law_502 : decode cL_law 502 = .ok (.iconst 0, 1) := by decide +kernel
theorem dL_law_503 : decode cL_law 503 = .ok (.ireturn, 1) := by decide +kernel
theorem dL_law_504 : decode cL_law 504 = .ok (.aload_n 1, 1) := by decide +kernel
theorem dL_law_505 : decode cL_law 505 = .ok (.invokevirtual 66, 3) := by decide +kernel
theorem dL_law_508 : decode cL_law 508 = .ok (.aload_n 2, 1) := by decide +kernel
theorem dL_law_509 : decode cL_law 509 = .ok (.invokevirtual 69, 3) := by decide +kernel
theorem dL_law_512 : decode cL_law 512 = .ok (.if_icmp .eq 570, 3) := by decide +kernel
theorem dL_law_515 : decode cL_law 515 = .ok (.iconst 0, 1) := by decide +kernel
theorem dL_law_516 : decode cL_law 516 = .ok (.ireturn, 1) := by decide +kernel
theorem dL_law_517 : decode cL_law 517 = .ok (.aload_n 1, 1) := by decide +kernel
theorem dL_law_518 : decode cL_law 518 = .ok (.aload_n 0, 1) := by decide +kernel
theorem dL_law_519 : decode cL_law 519 = .ok (.iload_n 3, 1) := by decide +kernel
theorem dL_law_520 : decode cL_law 520 = .ok (.iconst 1, 1) := by decide +kernel
theorem dL_law_521 : decode cL_law 521 = .ok (.iadd, 1) := by decide +kernel
theorem dL_law_522 : decode cL_law 522 = .ok (.iaload, 1) := by decide +kernel
theorem dL_law_523 : decode cL_law 523 = .ok (.invokevirtual 70, 3) := by decide +kernel
theorem dL_law_526 : decode cL_law 526 = .ok (.aload_n 2, 1) := by decide +kernel
theorem dL_law_527 : decode cL_law 527 = .ok (.aload_n 0, 1) := by decide +kernel
theorem dL_law_528 : decode cL_law 528 = .ok (.iload_n 3, 1) := by decide +kernel
theorem dL_law_529 : decode cL_law 529 = .ok (.iconst 1, 1) := by decide +kernel
theorem dL_law_530 : decode cL_law 530 = .ok (.iadd, 1) := by decide +kernel
theorem dL_law_531 : decode cL_law 531 = .ok (.iaload, 1) := by decide +kernel
theorem dL_law_532 : decode cL_law 532 = .ok (.invokevirtual 73, 3) := by decide +kernel
theorem dL_law_535 : decode cL_law 535 = .ok (.if_icmp .eq 547, 3) := by decide +kernel
theorem dL_law_538 : decode cL_law 538 = .ok (.iconst 0, 1) := by decide +kernel
theorem dL_law_539 : decode cL_law 539 = .ok (.ireturn, 1) := by decide +kernel
theorem dL_law_540 : decode cL_law 540 = .ok (.aload_n 1, 1) := by decide +kernel
theorem dL_law_541 : decode cL_law 541 = .ok (.aload_n 0, 1) := by decide +kernel
theorem dL_law_542 : decode cL_law 542 = .ok (.iload_n 3, 1) := by decide +kernel
theorem dL_law_543 : decode cL_law 543 = .ok (.iconst 1, 1) := by decide +kernel
theorem dL_law_544 : decode cL_law 544 = .ok (.iadd, 1) := by decide +kernel
theorem dL_law_545 : decode cL_law 545 = .ok (.iaload, 1) := by decide +kernel
theorem dL_law_546 : decode cL_law 546 = .ok (.aload_n 0, 1) := by decide +kernel
theorem dL_law_547 : decode cL_law 547 = .ok (.iload_n 3, 1) := by decide +kernel
theorem dL_law_548 : decode cL_law 548 = .ok (.iconst 2, 1) := by decide +kernel
theorem dL_law_549 : decode cL_law 549 = .ok (.iadd, 1) := by decide +kernel
theorem dL_law_550 : decode cL_law 550 = .ok (.iaload, 1) := by decide +kernel
theorem dL_law_551 : decode cL_law 551 = .ok (.invokevirtual 74, 3) := by decide +kernel
theorem dL_law_554 : decode cL_law 554 = .ok (.aload_n 2, 1) := by decide +kernel
theorem dL_law_555 : decode cL_law 555 = .ok (.aload_n 0, 1) := by decide +kernel
theorem dL_law_556 : decode cL_law 556 = .ok (.iload_n 3, 1) := by decide +kernel
theorem dL_law_557 : decode cL_law 557 = .ok (.iconst 1, 1) := by decide +kernel
theorem dL_law_558 : decode cL_law 558 = .ok (.iadd, 1) := by decide +kernel
theorem dL_law_559 : decode cL_law 559 = .ok (.iaload, 1) := by decide +kernel
theorem dL_law_560 : decode cL_law 560 = .ok (.aload_n 0, 1) := by decide +kernel
theorem dL_law_561 : decode cL_law 561 = .ok (.iload_n 3, 1) := by decide +kernel
theorem dL_law_562 : decode cL_law 562 = .ok (.iconst 2, 1) := by decide +kernel
theorem dL_law_563 : decode cL_law 563 = .ok (.iadd, 1) := by decide +kernel
theorem dL_law_564 : decode cL_law 564 = .ok (.iaload, 1) := by decide +kernel
theorem dL_law_565 : decode cL_law 565 = .ok (.invokevirtual 77, 3) := by decide +kernel
theorem dL_law_568 : decode cL_law 568 = .ok (.if_icmp .eq 514, 3) := by decide +kernel
theorem dL_law_571 : decode cL_law 571 = .ok (.iconst 0, 1) := by decide +kernel
theorem dL_law_572 : decode cL_law 572 = .ok (.ireturn, 1) := by decide +kernel
theorem dL_law_573 : decode cL_law 573 = .ok (.aload_n 1, 1) := by decide +kernel
theorem dL_law_574 : decode cL_law 574 = .ok (.aload_n 0, 1) := by decide +kernel
theorem dL_law_575 : decode cL_law 575 = .ok (.iload_n 3, 1) := by decide +kernel
theorem dL_law_576 : decode cL_law 576 = .ok (.iconst 1, 1) := by decide +kernel
theorem dL_law_577 : decode cL_law 577 = .ok (.iadd, 1) := by decide +kernel
theorem dL_law_578 : decode cL_law 578 = .ok (.iaload, 1) := by decide +kernel
theorem dL_law_579 : decode cL_law 579 = .ok (.invokevirtual 78, 3) := by decide +kernel
theorem dL_law_582 : decode cL_law 582 = .ok (.aload_n 2, 1) := by decide +kernel
theorem dL_law_583 : decode cL_law 583 = .ok (.aload_n 0, 1) := by decide +kernel
theorem dL_law_584 : decode cL_law 584 = .ok (.iload_n 3, 1) := by decide +kernel
theorem dL_law_585 : decode cL_law 585 = .ok (.iconst 1, 1) := by decide +kernel
theorem dL_law_586 : decode cL_law 586 = .ok (.iadd, 1) := by decide +kernel
theorem dL_law_587 : decode cL_law 587 = .ok (.iaload, 1) := by decide +kernel
theorem dL_law_588 : decode cL_law 588 = .ok (.invokevirtual 81, 3) := by decide +kernel
theorem dL_law_591 : decode cL_law 591 = .ok (.if_icmp .eq 491, 3) := by decide +kernel
theorem dL_law_594 : decode cL_law 594 = .ok (.iconst 0, 1) := by decide +kernel
theorem dL_law_595 : decode cL_law 595 = .ok (.ireturn, 1) := by decide +kernel
theorem dL_law_596 : decode cL_law 596 = .ok (.aload_n 1, 1) := by decide +kernel
theorem dL_law_597 : decode cL_law 597 = .ok (.aload_n 0, 1) := by decide +kernel
theorem dL_law_598 : decode cL_law 598 = .ok (.iload_n 3, 1) := by decide +kernel
theorem dL_law_599 : decode cL_law 599 = .ok (.iconst 1, 1) := by decide +kernel
theorem dL_law_600 : decode cL_law 600 = .ok (.iadd, 1) := by decide +kernel
theorem dL_law_601 : decode cL_law 601 = .ok (.iaload, 1) := by decide +kernel
theorem dL_law_602 : decode cL_law 602 = .ok (.aload_n 0, 1) := by decide +kernel
theorem dL_law_603 : decode cL_law 603 = .ok (.iload_n 3, 1) := by decide +kernel
theorem dL_law_604 : decode cL_law 604 = .ok (.iconst 2, 1) := by decide +kernel
theorem dL_law_605 : decode cL_law 605 = .ok (.iadd, 1) := by decide +kernel
theorem dL_law_606 : decode cL_law 606 = .ok (.iaload, 1) := by decide +kernel
theorem dL_law_607 : decode cL_law 607 = .ok (.aload_n 0, 1) := by decide +kernel
theorem dL_law_608 : decode cL_law 608 = .ok (.iload_n 3, 1) := by decide +kernel
theorem dL_law_609 : decode cL_law 609 = .ok (.iconst 3, 1) := by decide +kernel
theorem dL_law_610 : decode cL_law 610 = .ok (.iadd, 1) := by decide +kernel
theorem dL_law_611 : decode cL_law 611 = .ok (.iaload, 1) := by decide +kernel
theorem dL_law_612 : decode cL_law 612 = .ok (.invokevirtual 82, 3) := by decide +kernel
theorem dL_law_615 : decode cL_law 615 = .ok (.aload_n 2, 1) := by decide +kernel
theorem dL_law_616 : decode cL_law 616 = .ok (.aload_n 0, 1) := by decide +kernel
theorem dL_law_617 : decode cL_law 617 = .ok (.iload_n 3, 1) := by decide +kernel
theorem dL_law_618 : decode cL_law 618 = .ok (.iconst 1, 1) := by decide +kernel
theorem dL_law_619 : decode cL_law 619 = .ok (.iadd, 1) := by decide +kernel
theorem dL_law_620 : decode cL_law 620 = .ok (.iaload, 1) := by decide +kernel
theorem dL_law_621 : decode cL_law 621 = .ok (.aload_n 0, 1) := by decide +kernel
theorem dL_law_622 : decode cL_law 622 = .ok (.iload_n 3, 1) := by decide +kernel
theorem dL_law_623 : decode cL_law 623 = .ok (.iconst 2, 1) := by decide +kernel
theorem dL_law_624 : decode cL_law 624 = .ok (.iadd, 1) := by decide +kernel
theorem dL_law_625 : decode cL_law 625 = .ok (.iaload, 1) := by decide +kernel
theorem dL_law_626 : decode cL_law 626 = .ok (.aload_n 0, 1) := by decide +kernel
theorem dL_law_627 : decode cL_law 627 = .ok (.iload_n 3, 1) := by decide +kernel
theorem dL_law_628 : decode cL_law 628 = .ok (.iconst 3, 1) := by decide +kernel
theorem dL_law_629 : decode cL_law 629 = .ok (.iadd, 1) := by decide +kernel
theorem dL_law_630 : decode cL_law 630 = .ok (.iaload, 1) := by decide +kernel
theorem dL_law_631 : decode cL_law 631 = .ok (.invokevirtual 85, 3) := by decide +kernel
theorem dL_law_634 : decode cL_law 634 = .ok (.if_icmp .eq 448, 3) := by decide +kernel
theorem dL_law_637 : decode cL_law 637 = .ok (.iconst 0, 1) := by decide +kernel
theorem dL_law_638 : decode cL_law 638 = .ok (.ireturn, 1) := by decide +kernel
theorem dL_law_639 : decode cL_law 639 = .ok (.aload_n 1, 1) := by decide +kernel
theorem dL_law_640 : decode cL_law 640 = .ok (.aload_n 0, 1) := by decide +kernel
theorem dL_law_641 : decode cL_law 641 = .ok (.iload_n 3, 1) := by decide +kernel
theorem dL_law_642 : decode cL_law 642 = .ok (.iconst 1, 1) := by decide +kernel
theorem dL_law_643 : decode cL_law 643 = .ok (.iadd, 1) := by decide +kernel
theorem dL_law_644 : decode cL_law 644 = .ok (.iaload, 1) := by decide +kernel
theorem dL_law_645 : decode cL_law 645 = .ok (.aload_n 0, 1) := by decide +kernel
theorem dL_law_646 : decode cL_law 646 = .ok (.iload_n 3, 1) := by decide +kernel
theorem dL_law_647 : decode cL_law 647 = .ok (.iconst 2, 1) := by decide +kernel
theorem dL_law_648 : decode cL_law 648 = .ok (.iadd, 1) := by decide +kernel
theorem dL_law_649 : decode cL_law 649 = .ok (.iaload, 1) := by decide +kernel
theorem dL_law_650 : decode cL_law 650 = .ok (.invokevirtual 86, 3) := by decide +kernel
theorem dL_law_653 : decode cL_law 653 = .ok (.aload_n 2, 1) := by decide +kernel
theorem dL_law_654 : decode cL_law 654 = .ok (.aload_n 0, 1) := by decide +kernel
theorem dL_law_655 : decode cL_law 655 = .ok (.iload_n 3, 1) := by decide +kernel
theorem dL_law_656 : decode cL_law 656 = .ok (.iconst 1, 1) := by decide +kernel
theorem dL_law_657 : decode cL_law 657 = .ok (.iadd, 1) := by decide +kernel
theorem dL_law_658 : decode cL_law 658 = .ok (.iaload, 1) := by decide +kernel
theorem dL_law_659 : decode cL_law 659 = .ok (.aload_n 0, 1) := by decide +kernel
theorem dL_law_660 : decode cL_law 660 = .ok (.iload_n 3, 1) := by decide +kernel
theorem dL_law_661 : decode cL_law 661 = .ok (.iconst 2, 1) := by decide +kernel
theorem dL_law_662 : decode cL_law 662 = .ok (.iadd, 1) := by decide +kernel
theorem dL_law_663 : decode cL_law 663 = .ok (.iaload, 1) := by decide +kernel
theorem dL_law_664 : decode cL_law 664 = .ok (.invokevirtual 89, 3) := by decide +kernel
theorem dL_law_667 : decode cL_law 667 = .ok (.if_icmp .eq 415, 3) := by decide +kernel
theorem dL_law_670 : decode cL_law 670 = .ok (.iconst 0, 1) := by decide +kernel
theorem dL_law_671 : decode cL_law 671 = .ok (.ireturn, 1) := by decide +kernel
theorem dL_law_672 : decode cL_law 672 = .ok (.aload_n 1, 1) := by decide +kernel
theorem dL_law_673 : decode cL_law 673 = .ok (.aload_n 0, 1) := by decide +kernel
theorem dL_law_674 : decode cL_law 674 = .ok (.iload_n 3, 1) := by decide +kernel
theorem dL_law_675 : decode cL_law 675 = .ok (.iconst 1, 1) := by decide +kernel
theorem dL_law_676 : decode cL_law 676 = .ok (.iadd, 1) := by decide +kernel
theorem dL_law_677 : decode cL_law 677 = .ok (.iaload, 1) := by decide +kernel
theorem dL_law_678 : decode cL_law 678 = .ok (.invokevirtual 90, 3) := by decide +kernel
theorem dL_law_681 : decode cL_law 681 = .ok (.aload_n 2, 1) := by decide +kernel
theorem dL_law_682 : decode cL_law 682 = .ok (.aload_n 0, 1) := by decide +kernel
theorem dL_law_683 : decode cL_law 683 = .ok (.iload_n 3, 1) := by decide +kernel
theorem dL_law_684 : decode cL_law 684 = .ok (.iconst 1, 1) := by decide +kernel
theorem dL_law_685 : decode cL_law 685 = .ok (.iadd, 1) := by decide +kernel
theorem dL_law_686 : decode cL_law 686 = .ok (.iaload, 1) := by decide +kernel
theorem dL_law_687 : decode cL_law 687 = .ok (.invokevirtual 93, 3) := by decide +kernel
theorem dL_law_690 : decode cL_law 690 = .ok (.if_icmp .eq 392, 3) := by decide +kernel
theorem dL_law_693 : decode cL_law 693 = .ok (.iconst 0, 1) := by decide +kernel
theorem dL_law_694 : decode cL_law 694 = .ok (.ireturn, 1) := by decide +kernel
theorem dL_law_695 : decode cL_law 695 = .ok (.aload_n 1, 1) := by decide +kernel
theorem dL_law_696 : decode cL_law 696 = .ok (.aload_n 0, 1) := by decide +kernel
theorem dL_law_697 : decode cL_law 697 = .ok (.iload_n 3, 1) := by decide +kernel
theorem dL_law_698 : decode cL_law 698 = .ok (.iconst 1, 1) := by decide +kernel
theorem dL_law_699 : decode cL_law 699 = .ok (.iadd, 1) := by decide +kernel
theorem dL_law_700 : decode cL_law 700 = .ok (.iaload, 1) := by decide +kernel
theorem dL_law_701 : decode cL_law 701 = .ok (.aload_n 0, 1) := by decide +kernel
theorem dL_law_702 : decode cL_law 702 = .ok (.iload_n 3, 1) := by decide +kernel
theorem dL_law_703 : decode cL_law 703 = .ok (.iconst 2, 1) := by decide +kernel
theorem dL_law_704 : decode cL_law 704 = .ok (.iadd, 1) := by decide +kernel
theorem dL_law_705 : decode cL_law 705 = .ok (.iaload, 1) := by decide +kernel
theorem dL_law_706 : decode cL_law 706 = .ok (.aload_n 0, 1) := by decide +kernel
theorem dL_law_707 : decode cL_law 707 = .ok (.iload_n 3, 1) := by decide +kernel
theorem dL_law_708 : decode cL_law 708 = .ok (.iconst 3, 1) := by decide +kernel
theorem dL_law_709 : decode cL_law 709 = .ok (.iadd, 1) := by decide +kernel
theorem dL_law_710 : decode cL_law 710 = .ok (.iaload, 1) := by decide +kernel
theorem dL_law_711 : decode cL_law 711 = .ok (.invokevirtual 94, 3) := by decide +kernel
theorem dL_law_714 : decode cL_law 714 = .ok (.aload_n 2, 1) := by decide +kernel
theorem dL_law_715 : decode cL_law 715 = .ok (.aload_n 0, 1) := by decide +kernel
theorem dL_law_716 : decode cL_law 716 = .ok (.iload_n 3, 1) := by decide +kernel
theorem dL_law_717 : decode cL_law 717 = .ok (.iconst 1, 1) := by decide +kernel
theorem dL_law_718 : decode cL_law 718 = .ok (.iadd, 1) := by decide +kernel
theorem dL_law_719 : decode cL_law 719 = .ok (.iaload, 1) := by decide +kernel
theorem dL_law_720 : decode cL_law 720 = .ok (.aload_n 0, 1) := by decide +kernel
theorem dL_law_721 : decode cL_law 721 = .ok (.iload_n 3, 1) := by decide +kernel
theorem dL_law_722 : decode cL_law 722 = .ok (.iconst 2, 1) := by decide +kernel
theorem dL_law_723 : decode cL_law 723 = .ok (.iadd, 1) := by decide +kernel
theorem dL_law_724 : decode cL_law 724 = .ok (.iaload, 1) := by decide +kernel
theorem dL_law_725 : decode cL_law 725 = .ok (.aload_n 0, 1) := by decide +kernel
theorem dL_law_726 : decode cL_law 726 = .ok (.iload_n 3, 1) := by decide +kernel
theorem dL_law_727 : decode cL_law 727 = .ok (.iconst 3, 1) := by decide +kernel
theorem dL_law_728 : decode cL_law 728 = .ok (.iadd, 1) := by decide +kernel
theorem dL_law_729 : decode cL_law 729 = .ok (.iaload, 1) := by decide +kernel
theorem dL_law_730 : decode cL_law 730 = .ok (.invokevirtual 97, 3) := by decide +kernel
theorem dL_law_733 : decode cL_law 733 = .ok (.if_icmp .eq 349, 3) := by decide +kernel
theorem dL_law_736 : decode cL_law 736 = .ok (.iconst 0, 1) := by decide +kernel
theorem dL_law_737 : decode cL_law 737 = .ok (.ireturn, 1) := by decide +kernel
theorem dL_law_738 : decode cL_law 738 = .ok (.aload_n 1, 1) := by decide +kernel
theorem dL_law_739 : decode cL_law 739 = .ok (.invokevirtual 98, 3) := by decide +kernel
theorem dL_law_742 : decode cL_law 742 = .ok (.aload_n 2, 1) := by decide +kernel
theorem dL_law_743 : decode cL_law 743 = .ok (.invokevirtual 101, 3) := by decide +kernel
theorem dL_law_746 : decode cL_law 746 = .ok (.if_icmp .eq 336, 3) := by decide +kernel
theorem dL_law_749 : decode cL_law 749 = .ok (.iconst 0, 1) := by decide +kernel
theorem dL_law_750 : decode cL_law 750 = .ok (.ireturn, 1) := by decide +kernel
theorem dL_law_751 : decode cL_law 751 = .ok (.aload_n 1, 1) := by decide +kernel
theorem dL_law_752 : decode cL_law 752 = .ok (.aload_n 0, 1) := by decide +kernel
theorem dL_law_753 : decode cL_law 753 = .ok (.iload_n 3, 1) := by decide +kernel
theorem dL_law_754 : decode cL_law 754 = .ok (.iconst 1, 1) := by decide +kernel
theorem dL_law_755 : decode cL_law 755 = .ok (.iadd, 1) := by decide +kernel
theorem dL_law_756 : decode cL_law 756 = .ok (.iaload, 1) := by decide +kernel
theorem dL_law_757 : decode cL_law 757 = .ok (.invokevirtual 102, 3) := by decide +kernel
theorem dL_law_760 : decode cL_law 760 = .ok (.aload_n 2, 1) := by decide +kernel
theorem dL_law_761 : decode cL_law 761 = .ok (.aload_n 0, 1) := by decide +kernel
theorem dL_law_762 : decode cL_law 762 = .ok (.iload_n 3, 1) := by decide +kernel
theorem dL_law_763 : decode cL_law 763 = .ok (.iconst 1, 1) := by decide +kernel
theorem dL_law_764 : decode cL_law 764 = .ok (.iadd, 1) := by decide +kernel
theorem dL_law_765 : decode cL_law 765 = .ok (.iaload, 1) := by decide +kernel
theorem dL_law_766 : decode cL_law 766 = .ok (.invokevirtual 105, 3) := by decide +kernel
theorem dL_law_769 : decode cL_law 769 = .ok (.if_icmp .eq 313, 3) := by decide +kernel
theorem dL_law_772 : decode cL_law 772 = .ok (.iconst 0, 1) := by decide +kernel
theorem dL_law_773 : decode cL_law 773 = .ok (.ireturn, 1) := by decide +kernel
theorem dL_law_774 : decode cL_law 774 = .ok (.aload_n 1, 1) := by decide +kernel
theorem dL_law_775 : decode cL_law 775 = .ok (.aload_n 0, 1) := by decide +kernel
theorem dL_law_776 : decode cL_law 776 = .ok (.iload_n 3, 1) := by decide +kernel
theorem dL_law_777 : decode cL_law 777 = .ok (.iconst 1, 1) := by decide +kernel
theorem dL_law_778 : decode cL_law 778 = .ok (.iadd, 1) := by decide +kernel
theorem dL_law_779 : decode cL_law 779 = .ok (.iaload, 1) := by decide +kernel
theorem dL_law_780 : decode cL_law 780 = .ok (.invokevirtual 106, 3) := by decide +kernel
theorem dL_law_783 : decode cL_law 783 = .ok (.aload_n 2, 1) := by decide +kernel
theorem dL_law_784 : decode cL_law 784 = .ok (.aload_n 0, 1) := by decide +kernel
theorem dL_law_785 : decode cL_law 785 = .ok (.iload_n 3, 1) := by decide +kernel
theorem dL_law_786 : decode cL_law 786 = .ok (.iconst 1, 1) := by decide +kernel
theorem dL_law_787 : decode cL_law 787 = .ok (.iadd, 1) := by decide +kernel
theorem dL_law_788 : decode cL_law 788 = .ok (.iaload, 1) := by decide +kernel
theorem dL_law_789 : decode cL_law 789 = .ok (.invokevirtual 109, 3) := by decide +kernel
theorem dL_law_792 : decode cL_law 792 = .ok (.if_icmp .eq 290, 3) := by decide +kernel
theorem dL_law_795 : decode cL_law 795 = .ok (.iconst 0, 1) := by decide +kernel
theorem dL_law_796 : decode cL_law 796 = .ok (.ireturn, 1) := by decide +kernel
theorem dL_law_797 : decode cL_law 797 = .ok (.aload_n 1, 1) := by decide +kernel
theorem dL_law_798 : decode cL_law 798 = .ok (.aload_n 0, 1) := by decide +kernel
theorem dL_law_799 : decode cL_law 799 = .ok (.iload_n 3, 1) := by decide +kernel
theorem dL_law_800 : decode cL_law 800 = .ok (.iconst 1, 1) := by decide +kernel
theorem dL_law_801 : decode cL_law 801 = .ok (.iadd, 1) := by decide +kernel
theorem dL_law_802 : decode cL_law 802 = .ok (.iaload, 1) := by decide +kernel
theorem dL_law_803 : decode cL_law 803 = .ok (.aload_n 0, 1) := by decide +kernel
theorem dL_law_804 : decode cL_law 804 = .ok (.iload_n 3, 1) := by decide +kernel
theorem dL_law_805 : decode cL_law 805 = .ok (.iconst 2, 1) := by decide +kernel
theorem dL_law_806 : decode cL_law 806 = .ok (.iadd, 1) := by decide +kernel
theorem dL_law_807 : decode cL_law 807 = .ok (.iaload, 1) := by decide +kernel
theorem dL_law_808 : decode cL_law 808 = .ok (.aload_n 0, 1) := by decide +kernel
theorem dL_law_809 : decode cL_law 809 = .ok (.iload_n 3, 1) := by decide +kernel
theorem dL_law_810 : decode cL_law 810 = .ok (.iconst 3, 1) := by decide +kernel
theorem dL_law_811 : decode cL_law 811 = .ok (.iadd, 1) := by decide +kernel
theorem dL_law_812 : decode cL_law 812 = .ok (.iaload, 1) := by decide +kernel
theorem dL_law_813 : decode cL_law 813 = .ok (.aload_n 0, 1) := by decide +kernel
theorem dL_law_814 : decode cL_law 814 = .ok (.iload_n 3, 1) := by decide +kernel
theorem dL_law_815 : decode cL_law 815 = .ok (.iconst 4, 1) := by decide +kernel
theorem dL_law_816 : decode cL_law 816 = .ok (.iadd, 1) := by decide +kernel
theorem dL_law_817 : decode cL_law 817 = .ok (.iaload, 1) := by decide +kernel
theorem dL_law_818 : decode cL_law 818 = .ok (.aload_n 0, 1) := by decide +kernel
theorem dL_law_819 : decode cL_law 819 = .ok (.iload_n 3, 1) := by decide +kernel
theorem dL_law_820 : decode cL_law 820 = .ok (.iconst 5, 1) := by decide +kernel
theorem dL_law_821 : decode cL_law 821 = .ok (.iadd, 1) := by decide +kernel
theorem dL_law_822 : decode cL_law 822 = .ok (.iaload, 1) := by decide +kernel
theorem dL_law_823 : decode cL_law 823 = .ok (.aload_n 0, 1) := by decide +kernel
theorem dL_law_824 : decode cL_law 824 = .ok (.iload_n 3, 1) := by decide +kernel
theorem dL_law_825 : decode cL_law 825 = .ok (.bipush 6, 2) := by decide +kernel
theorem dL_law_827 : decode cL_law 827 = .ok (.iadd, 1) := by decide +kernel
theorem dL_law_828 : decode cL_law 828 = .ok (.iaload, 1) := by decide +kernel
theorem dL_law_829 : decode cL_law 829 = .ok (.invokevirtual 110, 3) := by decide +kernel
theorem dL_law_832 : decode cL_law 832 = .ok (.aload_n 2, 1) := by decide +kernel
theorem dL_law_833 : decode cL_law 833 = .ok (.aload_n 0, 1) := by decide +kernel
theorem dL_law_834 : decode cL_law 834 = .ok (.iload_n 3, 1) := by decide +kernel
theorem dL_law_835 : decode cL_law 835 = .ok (.iconst 1, 1) := by decide +kernel
theorem dL_law_836 : decode cL_law 836 = .ok (.iadd, 1) := by decide +kernel
theorem dL_law_837 : decode cL_law 837 = .ok (.iaload, 1) := by decide +kernel
theorem dL_law_838 : decode cL_law 838 = .ok (.aload_n 0, 1) := by decide +kernel
theorem dL_law_839 : decode cL_law 839 = .ok (.iload_n 3, 1) := by decide +kernel
theorem dL_law_840 : decode cL_law 840 = .ok (.iconst 2, 1) := by decide +kernel
theorem dL_law_841 : decode cL_law 841 = .ok (.iadd, 1) := by decide +kernel
theorem dL_law_842 : decode cL_law 842 = .ok (.iaload, 1) := by decide +kernel
theorem dL_law_843 : decode cL_law 843 = .ok (.aload_n 0, 1) := by decide +kernel
theorem dL_law_844 : decode cL_law 844 = .ok (.iload_n 3, 1) := by decide +kernel
theorem dL_law_845 : decode cL_law 845 = .ok (.iconst 3, 1) := by decide +kernel
theorem dL_law_846 : decode cL_law 846 = .ok (.iadd, 1) := by decide +kernel
theorem dL_law_847 : decode cL_law 847 = .ok (.iaload, 1) := by decide +kernel
theorem dL_law_848 : decode cL_law 848 = .ok (.aload_n 0, 1) := by decide +kernel
theorem dL_law_849 : decode cL_law 849 = .ok (.iload_n 3, 1) := by decide +kernel
theorem dL_law_850 : decode cL_law 850 = .ok (.iconst 4, 1) := by decide +kernel
theorem dL_law_851 : decode cL_law 851 = .ok (.iadd, 1) := by decide +kernel
theorem dL_law_852 : decode cL_law 852 = .ok (.iaload, 1) := by decide +kernel
theorem dL_law_853 : decode cL_law 853 = .ok (.aload_n 0, 1) := by decide +kernel
theorem dL_law_854 : decode cL_law 854 = .ok (.iload_n 3, 1) := by decide +kernel
theorem dL_law_855 : decode cL_law 855 = .ok (.iconst 5, 1) := by decide +kernel
theorem dL_law_856 : decode cL_law 856 = .ok (.iadd, 1) := by decide +kernel
theorem dL_law_857 : decode cL_law 857 = .ok (.iaload, 1) := by decide +kernel
theorem dL_law_858 : decode cL_law 858 = .ok (.aload_n 0, 1) := by decide +kernel
theorem dL_law_859 : decode cL_law 859 = .ok (.iload_n 3, 1) := by decide +kernel
theorem dL_law_860 : decode cL_law 860 = .ok (.bipush 6, 2) := by decide +kernel
theorem dL_law_862 : decode cL_law 862 = .ok (.iadd, 1) := by decide +kernel
theorem dL_law_863 : decode cL_law 863 = .ok (.iaload, 1) := by decide +kernel
theorem dL_law_864 : decode cL_law 864 = .ok (.invokevirtual 114, 3) := by decide +kernel
theorem dL_law_867 : decode cL_law 867 = .ok (.lcmp, 1) := by decide +kernel
theorem dL_law_868 : decode cL_law 868 = .ok (.ifCond .eq 214, 3) := by decide +kernel
theorem dL_law_871 : decode cL_law 871 = .ok (.iconst 0, 1) := by decide +kernel
theorem dL_law_872 : decode cL_law 872 = .ok (.ireturn, 1) := by decide +kernel
theorem dL_law_873 : decode cL_law 873 = .ok (.aload_n 1, 1) := by decide +kernel
theorem dL_law_874 : decode cL_law 874 = .ok (.aload_n 0, 1) := by decide +kernel
theorem dL_law_875 : decode cL_law 875 = .ok (.iload_n 3, 1) := by decide +kernel
theorem dL_law_876 : decode cL_law 876 = .ok (.iconst 1, 1) := by decide +kernel
theorem dL_law_877 : decode cL_law 877 = .ok (.iadd, 1) := by decide +kernel
theorem dL_law_878 : decode cL_law 878 = .ok (.iaload, 1) := by decide +kernel
theorem dL_law_879 : decode cL_law 879 = .ok (.aload_n 0, 1) := by decide +kernel
theorem dL_law_880 : decode cL_law 880 = .ok (.iload_n 3, 1) := by decide +kernel
theorem dL_law_881 : decode cL_law 881 = .ok (.iconst 2, 1) := by decide +kernel
theorem dL_law_882 : decode cL_law 882 = .ok (.iadd, 1) := by decide +kernel
theorem dL_law_883 : decode cL_law 883 = .ok (.iaload, 1) := by decide +kernel
theorem dL_law_884 : decode cL_law 884 = .ok (.invokevirtual 115, 3) := by decide +kernel
theorem dL_law_887 : decode cL_law 887 = .ok (.aload_n 2, 1) := by decide +kernel
theorem dL_law_888 : decode cL_law 888 = .ok (.aload_n 0, 1) := by decide +kernel
theorem dL_law_889 : decode cL_law 889 = .ok (.iload_n 3, 1) := by decide +kernel
theorem dL_law_890 : decode cL_law 890 = .ok (.iconst 1, 1) := by decide +kernel
theorem dL_law_891 : decode cL_law 891 = .ok (.iadd, 1) := by decide +kernel
theorem dL_law_892 : decode cL_law 892 = .ok (.iaload, 1) := by decide +kernel
theorem dL_law_893 : decode cL_law 893 = .ok (.aload_n 0, 1) := by decide +kernel
theorem dL_law_894 : decode cL_law 894 = .ok (.iload_n 3, 1) := by decide +kernel
theorem dL_law_895 : decode cL_law 895 = .ok (.iconst 2, 1) := by decide +kernel
theorem dL_law_896 : decode cL_law 896 = .ok (.iadd, 1) := by decide +kernel
theorem dL_law_897 : decode cL_law 897 = .ok (.iaload, 1) := by decide +kernel
theorem dL_law_898 : decode cL_law 898 = .ok (.invokevirtual 118, 3) := by decide +kernel
theorem dL_law_901 : decode cL_law 901 = .ok (.if_icmp .eq 181, 3) := by decide +kernel
theorem dL_law_904 : decode cL_law 904 = .ok (.iconst 0, 1) := by decide +kernel
theorem dL_law_905 : decode cL_law 905 = .ok (.ireturn, 1) := by decide +kernel
theorem dL_law_906 : decode cL_law 906 = .ok (.aload_n 1, 1) := by decide +kernel
theorem dL_law_907 : decode cL_law 907 = .ok (.aload_n 0, 1) := by decide +kernel
theorem dL_law_908 : decode cL_law 908 = .ok (.iload_n 3, 1) := by decide +kernel
theorem dL_law_909 : decode cL_law 909 = .ok (.iconst 1, 1) := by decide +kernel
theorem dL_law_910 : decode cL_law 910 = .ok (.iadd, 1) := by decide +kernel
theorem dL_law_911 : decode cL_law 911 = .ok (.iaload, 1) := by decide +kernel
theorem dL_law_912 : decode cL_law 912 = .ok (.aload_n 0, 1) := by decide +kernel
theorem dL_law_913 : decode cL_law 913 = .ok (.iload_n 3, 1) := by decide +kernel
theorem dL_law_914 : decode cL_law 914 = .ok (.iconst 2, 1) := by decide +kernel
theorem dL_law_915 : decode cL_law 915 = .ok (.iadd, 1) := by decide +kernel
theorem dL_law_916 : decode cL_law 916 = .ok (.iaload, 1) := by decide +kernel
theorem dL_law_917 : decode cL_law 917 = .ok (.aload_n 0, 1) := by decide +kernel
theorem dL_law_918 : decode cL_law 918 = .ok (.iload_n 3, 1) := by decide +kernel
theorem dL_law_919 : decode cL_law 919 = .ok (.iconst 3, 1) := by decide +kernel
theorem dL_law_920 : decode cL_law 920 = .ok (.iadd, 1) := by decide +kernel
theorem dL_law_921 : decode cL_law 921 = .ok (.iaload, 1) := by decide +kernel
theorem dL_law_922 : decode cL_law 922 = .ok (.aload_n 0, 1) := by decide +kernel
theorem dL_law_923 : decode cL_law 923 = .ok (.iload_n 3, 1) := by decide +kernel
theorem dL_law_924 : decode cL_law 924 = .ok (.iconst 4, 1) := by decide +kernel
theorem dL_law_925 : decode cL_law 925 = .ok (.iadd, 1) := by decide +kernel
theorem dL_law_926 : decode cL_law 926 = .ok (.iaload, 1) := by decide +kernel
theorem dL_law_927 : decode cL_law 927 = .ok (.aload_n 0, 1) := by decide +kernel
theorem dL_law_928 : decode cL_law 928 = .ok (.iload_n 3, 1) := by decide +kernel
theorem dL_law_929 : decode cL_law 929 = .ok (.iconst 5, 1) := by decide +kernel
theorem dL_law_930 : decode cL_law 930 = .ok (.iadd, 1) := by decide +kernel
theorem dL_law_931 : decode cL_law 931 = .ok (.iaload, 1) := by decide +kernel
theorem dL_law_932 : decode cL_law 932 = .ok (.invokevirtual 119, 3) := by decide +kernel
theorem dL_law_935 : decode cL_law 935 = .ok (.aload_n 2, 1) := by decide +kernel
theorem dL_law_936 : decode cL_law 936 = .ok (.aload_n 0, 1) := by decide +kernel
theorem dL_law_937 : decode cL_law 937 = .ok (.iload_n 3, 1) := by decide +kernel
theorem dL_law_938 : decode cL_law 938 = .ok (.iconst 1, 1) := by decide +kernel
theorem dL_law_939 : decode cL_law 939 = .ok (.iadd, 1) := by decide +kernel
theorem dL_law_940 : decode cL_law 940 = .ok (.iaload, 1) := by decide +kernel
theorem dL_law_941 : decode cL_law 941 = .ok (.aload_n 0, 1) := by decide +kernel
theorem dL_law_942 : decode cL_law 942 = .ok (.iload_n 3, 1) := by decide +kernel
theorem dL_law_943 : decode cL_law 943 = .ok (.iconst 2, 1) := by decide +kernel
theorem dL_law_944 : decode cL_law 944 = .ok (.iadd, 1) := by decide +kernel
theorem dL_law_945 : decode cL_law 945 = .ok (.iaload, 1) := by decide +kernel
theorem dL_law_946 : decode cL_law 946 = .ok (.aload_n 0, 1) := by decide +kernel
theorem dL_law_947 : decode cL_law 947 = .ok (.iload_n 3, 1) := by decide +kernel
theorem dL_law_948 : decode cL_law 948 = .ok (.iconst 3, 1) := by decide +kernel
theorem dL_law_949 : decode cL_law 949 = .ok (.iadd, 1) := by decide +kernel
theorem dL_law_950 : decode cL_law 950 = .ok (.iaload, 1) := by decide +kernel
theorem dL_law_951 : decode cL_law 951 = .ok (.aload_n 0, 1) := by decide +kernel
theorem dL_law_952 : decode cL_law 952 = .ok (.iload_n 3, 1) := by decide +kernel
theorem dL_law_953 : decode cL_law 953 = .ok (.iconst 4, 1) := by decide +kernel
theorem dL_law_954 : decode cL_law 954 = .ok (.iadd, 1) := by decide +kernel
theorem dL_law_955 : decode cL_law 955 = .ok (.iaload, 1) := by decide +kernel
theorem dL_law_956 : decode cL_law 956 = .ok (.aload_n 0, 1) := by decide +kernel
theorem dL_law_957 : decode cL_law 957 = .ok (.iload_n 3, 1) := by decide +kernel
theorem dL_law_958 : decode cL_law 958 = .ok (.iconst 5, 1) := by decide +kernel
theorem dL_law_959 : decode cL_law 959 = .ok (.iadd, 1) := by decide +kernel
theorem dL_law_960 : decode cL_law 960 = .ok (.iaload, 1) := by decide +kernel
theorem dL_law_961 : decode cL_law 961 = .ok (.invokevirtual 123, 3) := by decide +kernel
theorem dL_law_964 : decode cL_law 964 = .ok (.lcmp, 1) := by decide +kernel
theorem dL_law_965 : decode cL_law 965 = .ok (.ifCond .eq 117, 3) := by decide +kernel
theorem dL_law_968 : decode cL_law 968 = .ok (.iconst 0, 1) := by decide +kernel
theorem dL_law_969 : decode cL_law 969 = .ok (.ireturn, 1) := by decide +kernel
theorem dL_law_970 : decode cL_law 970 = .ok (.aload_n 1, 1) := by decide +kernel
theorem dL_law_971 : decode cL_law 971 = .ok (.aload_n 0, 1) := by decide +kernel
theorem dL_law_972 : decode cL_law 972 = .ok (.iload_n 3, 1) := by decide +kernel
theorem dL_law_973 : decode cL_law 973 = .ok (.iconst 1, 1) := by decide +kernel
theorem dL_law_974 : decode cL_law 974 = .ok (.iadd, 1) := by decide +kernel
theorem dL_law_975 : decode cL_law 975 = .ok (.iaload, 1) := by decide +kernel
theorem dL_law_976 : decode cL_law 976 = .ok (.aload_n 0, 1) := by decide +kernel
theorem dL_law_977 : decode cL_law 977 = .ok (.iload_n 3, 1) := by decide +kernel
theorem dL_law_978 : decode cL_law 978 = .ok (.iconst 2, 1) := by decide +kernel
theorem dL_law_979 : decode cL_law 979 = .ok (.iadd, 1) := by decide +kernel
theorem dL_law_980 : decode cL_law 980 = .ok (.iaload, 1) := by decide +kernel
theorem dL_law_981 : decode cL_law 981 = .ok (.aload_n 0, 1) := by decide +kernel
theorem dL_law_982 : decode cL_law 982 = .ok (.iload_n 3, 1) := by decide +kernel
theorem dL_law_983 : decode cL_law 983 = .ok (.iconst 3, 1) := by decide +kernel
theorem dL_law_984 : decode cL_law 984 = .ok (.iadd, 1) := by decide +kernel
theorem dL_law_985 : decode cL_law 985 = .ok (.iaload, 1) := by decide +kernel
theorem dL_law_986 : decode cL_law 986 = .ok (.invokevirtual 124, 3) := by decide +kernel
theorem dL_law_989 : decode cL_law 989 = .ok (.aload_n 2, 1) := by decide +kernel
theorem dL_law_990 : decode cL_law 990 = .ok (.aload_n 0, 1) := by decide +kernel
theorem dL_law_991 : decode cL_law 991 = .ok (.iload_n 3, 1) := by decide +kernel
theorem dL_law_992 : decode cL_law 992 = .ok (.iconst 1, 1) := by decide +kernel
theorem dL_law_993 : decode cL_law 993 = .ok (.iadd, 1) := by decide +kernel
theorem dL_law_994 : decode cL_law 994 = .ok (.iaload, 1) := by decide +kernel
theorem dL_law_995 : decode cL_law 995 = .ok (.aload_n 0, 1) := by decide +kernel
theorem dL_law_996 : decode cL_law 996 = .ok (.iload_n 3, 1) := by decide +kernel
theorem dL_law_997 : decode cL_law 997 = .ok (.iconst 2, 1) := by decide +kernel
theorem dL_law_998 : decode cL_law 998 = .ok (.iadd, 1) := by decide +kernel
theorem dL_law_999 : decode cL_law 999 = .ok (.iaload, 1) := by decide +kernel
theorem dL_law_1000 : decode cL_law 1000 = .ok (.aload_n 0, 1) := by decide +kernel
theorem dL_law_1001 : decode cL_law 1001 = .ok (.iload_n 3, 1) := by decide +kernel
theorem dL_law_1002 : decode cL_law 1002 = .ok (.iconst 3, 1) := by decide +kernel
theorem dL_law_1003 : decode cL_law 1003 = .ok (.iadd, 1) := by decide +kernel
theorem dL_law_1004 : decode cL_law 1004 = .ok (.iaload, 1) := by decide +kernel
theorem dL_law_1005 : decode cL_law 1005 = .ok (.invokevirtual 127, 3) := by decide +kernel
theorem dL_law_1008 : decode cL_law 1008 = .ok (.if_icmp .eq 74, 3) := by decide +kernel
theorem dL_law_1011 : decode cL_law 1011 = .ok (.iconst 0, 1) := by decide +kernel
theorem dL_law_1012 : decode cL_law 1012 = .ok (.ireturn, 1) := by decide +kernel
theorem dL_law_1013 : decode cL_law 1013 = .ok (.aload_n 1, 1) := by decide +kernel
theorem dL_law_1014 : decode cL_law 1014 = .ok (.aload_n 0, 1) := by decide +kernel
theorem dL_law_1015 : decode cL_law 1015 = .ok (.iload_n 3, 1) := by decide +kernel
theorem dL_law_1016 : decode cL_law 1016 = .ok (.iconst 1, 1) := by decide +kernel
theorem dL_law_1017 : decode cL_law 1017 = .ok (.iadd, 1) := by decide +kernel
theorem dL_law_1018 : decode cL_law 1018 = .ok (.iaload, 1) := by decide +kernel
theorem dL_law_1019 : decode cL_law 1019 = .ok (.invokevirtual 128, 3) := by decide +kernel
theorem dL_law_1022 : decode cL_law 1022 = .ok (.aload_n 2, 1) := by decide +kernel
theorem dL_law_1023 : decode cL_law 1023 = .ok (.aload_n 0, 1) := by decide +kernel
theorem dL_law_1024 : decode cL_law 1024 = .ok (.iload_n 3, 1) := by decide +kernel
theorem dL_law_1025 : decode cL_law 1025 = .ok (.iconst 1, 1) := by decide +kernel
theorem dL_law_1026 : decode cL_law 1026 = .ok (.iadd, 1) := by decide +kernel
theorem dL_law_1027 : decode cL_law 1027 = .ok (.iaload, 1) := by decide +kernel
theorem dL_law_1028 : decode cL_law 1028 = .ok (.invokevirtual 131, 3) := by decide +kernel
theorem dL_law_1031 : decode cL_law 1031 = .ok (.if_icmp .eq 51, 3) := by decide +kernel
theorem dL_law_1034 : decode cL_law 1034 = .ok (.iconst 0, 1) := by decide +kernel
theorem dL_law_1035 : decode cL_law 1035 = .ok (.ireturn, 1) := by decide +kernel
theorem dL_law_1036 : decode cL_law 1036 = .ok (.aload_n 1, 1) := by decide +kernel
theorem dL_law_1037 : decode cL_law 1037 = .ok (.aload_n 0, 1) := by decide +kernel
theorem dL_law_1038 : decode cL_law 1038 = .ok (.iload_n 3, 1) := by decide +kernel
theorem dL_law_1039 : decode cL_law 1039 = .ok (.iconst 1, 1) := by decide +kernel
theorem dL_law_1040 : decode cL_law 1040 = .ok (.iadd, 1) := by decide +kernel
theorem dL_law_1041 : decode cL_law 1041 = .ok (.iaload, 1) := by decide +kernel
theorem dL_law_1042 : decode cL_law 1042 = .ok (.invokevirtual 132, 3) := by decide +kernel
theorem dL_law_1045 : decode cL_law 1045 = .ok (.aload_n 2, 1) := by decide +kernel
theorem dL_law_1046 : decode cL_law 1046 = .ok (.aload_n 0, 1) := by decide +kernel
theorem dL_law_1047 : decode cL_law 1047 = .ok (.iload_n 3, 1) := by decide +kernel
theorem dL_law_1048 : decode cL_law 1048 = .ok (.iconst 1, 1) := by decide +kernel
theorem dL_law_1049 : decode cL_law 1049 = .ok (.iadd, 1) := by decide +kernel
theorem dL_law_1050 : decode cL_law 1050 = .ok (.iaload, 1) := by decide +kernel
theorem dL_law_1051 : decode cL_law 1051 = .ok (.invokevirtual 135, 3) := by decide +kernel
theorem dL_law_1054 : decode cL_law 1054 = .ok (.if_icmp .eq 28, 3) := by decide +kernel
theorem dL_law_1057 : decode cL_law 1057 = .ok (.iconst 0, 1) := by decide +kernel
theorem dL_law_1058 : decode cL_law 1058 = .ok (.ireturn, 1) := by decide +kernel
theorem dL_law_1059 : decode cL_law 1059 = .ok (.aload_n 1, 1) := by decide +kernel
theorem dL_law_1060 : decode cL_law 1060 = .ok (.aload_n 0, 1) := by decide +kernel
theorem dL_law_1061 : decode cL_law 1061 = .ok (.iload_n 3, 1) := by decide +kernel
theorem dL_law_1062 : decode cL_law 1062 = .ok (.iconst 1, 1) := by decide +kernel
theorem dL_law_1063 : decode cL_law 1063 = .ok (.iadd, 1) := by decide +kernel
theorem dL_law_1064 : decode cL_law 1064 = .ok (.iaload, 1) := by decide +kernel
theorem dL_law_1065 : decode cL_law 1065 = .ok (.invokevirtual 136, 3) := by decide +kernel
theorem dL_law_1068 : decode cL_law 1068 = .ok (.aload_n 2, 1) := by decide +kernel
theorem dL_law_1069 : decode cL_law 1069 = .ok (.aload_n 0, 1) := by decide +kernel
theorem dL_law_1070 : decode cL_law 1070 = .ok (.iload_n 3, 1) := by decide +kernel
theorem dL_law_1071 : decode cL_law 1071 = .ok (.iconst 1, 1) := by decide +kernel
theorem dL_law_1072 : decode cL_law 1072 = .ok (.iadd, 1) := by decide +kernel
theorem dL_law_1073 : decode cL_law 1073 = .ok (.iaload, 1) := by decide +kernel
theorem dL_law_1074 : decode cL_law 1074 = .ok (.invokevirtual 139, 3) := by decide +kernel
theorem dL_law_1077 : decode cL_law 1077 = .ok (.if_icmp .eq 5, 3) := by decide +kernel
theorem dL_law_1080 : decode cL_law 1080 = .ok (.iconst 0, 1) := by decide +kernel
theorem dL_law_1081 : decode cL_law 1081 = .ok (.ireturn, 1) := by decide +kernel
theorem dL_law_1082 : decode cL_law 1082 = .ok (.iinc 3 7, 3) := by decide +kernel
theorem dL_law_1085 : decode cL_law 1085 = .ok (.goto (-1067), 3) := by decide +kernel
theorem dL_law_1088 : decode cL_law 1088 = .ok (.iconst 1, 1) := by decide +kernel
theorem dL_law_1089 : decode cL_law 1089 = .ok (.ireturn, 1) := by decide +kernel
