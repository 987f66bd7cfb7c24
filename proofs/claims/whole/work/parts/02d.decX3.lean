/-! decode rows -/
theorem dX3_firstLost_0 : decode cX3_firstLost 0 = .ok (.iconst 0, 1) := by decide +kernel
theorem dX3_firstLost_1 : decode cX3_firstLost 1 = .ok (.istore_n 2, 1) := by decide +kernel
theorem dX3_firstLost_2 : decode cX3_firstLost 2 = .ok (.iload_n 2, 1) := by decide +kernel
theorem dX3_firstLost_3 : decode cX3_firstLost 3 = .ok (.bipush 16, 2) := by decide +kernel
theorem dX3_firstLost_5 : decode cX3_firstLost 5 = .ok (.if_icmp .ge 28, 3) := by decide +kernel
theorem dX3_firstLost_8 : decode cX3_firstLost 8 = .ok (.aload_n 0, 1) := by decide +kernel
theorem dX3_firstLost_9 : decode cX3_firstLost 9 = .ok (.aload_n 1, 1) := by decide +kernel
theorem dX3_firstLost_10 : decode cX3_firstLost 10 = .ok (.iload_n 2, 1) := by decide +kernel
theorem dX3_firstLost_11 : decode cX3_firstLost 11 = .ok (.iconst 1, 1) := by decide +kernel
theorem dX3_firstLost_12 : decode cX3_firstLost 12 = .ok (.aload_n 1, 1) := by decide +kernel
theorem dX3_firstLost_13 : decode cX3_firstLost 13 = .ok (.getfield 39, 3) := by decide +kernel
theorem dX3_firstLost_16 : decode cX3_firstLost 16 = .ok (.ishl, 1) := by decide +kernel
theorem dX3_firstLost_17 : decode cX3_firstLost 17 = .ok (.iconst 1, 1) := by decide +kernel
theorem dX3_firstLost_18 : decode cX3_firstLost 18 = .ok (.isub, 1) := by decide +kernel
theorem dX3_firstLost_19 : decode cX3_firstLost 19 = .ok (.invokevirtual 45, 3) := by decide +kernel
theorem dX3_firstLost_22 : decode cX3_firstLost 22 = .ok (.ifCond .ne 5, 3) := by decide +kernel
theorem dX3_firstLost_25 : decode cX3_firstLost 25 = .ok (.iload_n 2, 1) := by decide +kernel
theorem dX3_firstLost_26 : decode cX3_firstLost 26 = .ok (.ireturn, 1) := by decide +kernel
theorem dX3_firstLost_27 : decode cX3_firstLost 27 = .ok (.iinc 2 1, 3) := by decide +kernel
theorem dX3_firstLost_30 : decode cX3_firstLost 30 = .ok (.goto (-28), 3) := by decide +kernel
theorem dX3_firstLost_33 : decode cX3_firstLost 33 = .ok (.bipush 16, 2) := by decide +kernel
theorem dX3_firstLost_35 : decode cX3_firstLost 35 = .ok (.ireturn, 1) := by decide +kernel
theorem dX3_canHave_0 : decode cX3_canHave 0 = .ok (.aload_n 0, 1) := by decide +kernel
theorem dX3_canHave_1 : decode cX3_canHave 1 = .ok (.aload_n 1, 1) := by decide +kernel
theorem dX3_canHave_2 : decode cX3_canHave 2 = .ok (.iload_n 2, 1) := by decide +kernel
theorem dX3_canHave_3 : decode cX3_canHave 3 = .ok (.iconst 0, 1) := by decide +kernel
theorem dX3_canHave_4 : decode cX3_canHave 4 = .ok (.invokevirtual 49, 3) := by decide +kernel
theorem dX3_canHave_7 : decode cX3_canHave 7 = .ok (.aload_n 0, 1) := by decide +kernel
theorem dX3_canHave_8 : decode cX3_canHave 8 = .ok (.iload_n 3, 1) := by decide +kernel
theorem dX3_canHave_9 : decode cX3_canHave 9 = .ok (.invokevirtual 53, 3) := by decide +kernel
theorem dX3_canHave_12 : decode cX3_canHave 12 = .ok (.ireturn, 1) := by decide +kernel
theorem dX3_mindedAt_0 : decode cX3_mindedAt 0 = .ok (.aload_n 0, 1) := by decide +kernel
theorem dX3_mindedAt_1 : decode cX3_mindedAt 1 = .ok (.aload_n 1, 1) := by decide +kernel
theorem dX3_mindedAt_2 : decode cX3_mindedAt 2 = .ok (.iload_n 2, 1) := by decide +kernel
theorem dX3_mindedAt_3 : decode cX3_mindedAt 3 = .ok (.invokevirtual 57, 3) := by decide +kernel
theorem dX3_mindedAt_6 : decode cX3_mindedAt 6 = .ok (.lstore_n 3, 1) := by decide +kernel
theorem dX3_mindedAt_7 : decode cX3_mindedAt 7 = .ok (.lload_n 3, 1) := by decide +kernel
theorem dX3_mindedAt_8 : decode cX3_mindedAt 8 = .ok (.ldc2_w 61, 3) := by decide +kernel
theorem dX3_mindedAt_11 : decode cX3_mindedAt 11 = .ok (.lcmp, 1) := by decide +kernel
theorem dX3_mindedAt_12 : decode cX3_mindedAt 12 = .ok (.ifCond .ge 11, 3) := by decide +kernel
theorem dX3_mindedAt_15 : decode cX3_mindedAt 15 = .ok (.lload_n 3, 1) := by decide +kernel
theorem dX3_mindedAt_16 : decode cX3_mindedAt 16 = .ok (.bipush 24, 2) := by decide +kernel
theorem dX3_mindedAt_18 : decode cX3_mindedAt 18 = .ok (.lshr, 1) := by decide +kernel
theorem dX3_mindedAt_19 : decode cX3_mindedAt 19 = .ok (.l2i, 1) := by decide +kernel
theorem dX3_mindedAt_20 : decode cX3_mindedAt 20 = .ok (.goto 4, 3) := by decide +kernel
theorem dX3_mindedAt_23 : decode cX3_mindedAt 23 = .ok (.iconst (-1), 1) := by decide +kernel
theorem dX3_mindedAt_24 : decode cX3_mindedAt 24 = .ok (.ireturn, 1) := by decide +kernel
theorem dX3_mindedInAll_0 : decode cX3_mindedInAll 0 = .ok (.iconst 0, 1) := by decide +kernel
theorem dX3_mindedInAll_1 : decode cX3_mindedInAll 1 = .ok (.istore_n 2, 1) := by decide +kernel
theorem dX3_mindedInAll_2 : decode cX3_mindedInAll 2 = .ok (.iconst 0, 1) := by decide +kernel
theorem dX3_mindedInAll_3 : decode cX3_mindedInAll 3 = .ok (.istore_n 3, 1) := by decide +kernel
theorem dX3_mindedInAll_4 : decode cX3_mindedInAll 4 = .ok (.iload_n 3, 1) := by decide +kernel
theorem dX3_mindedInAll_5 : decode cX3_mindedInAll 5 = .ok (.bipush 16, 2) := by decide +kernel
theorem dX3_mindedInAll_7 : decode cX3_mindedInAll 7 = .ok (.if_icmp .ge 37, 3) := by decide +kernel
theorem dX3_mindedInAll_10 : decode cX3_mindedInAll 10 = .ok (.aload_n 0, 1) := by decide +kernel
theorem dX3_mindedInAll_11 : decode cX3_mindedInAll 11 = .ok (.aload_n 1, 1) := by decide +kernel
theorem dX3_mindedInAll_12 : decode cX3_mindedInAll 12 = .ok (.iload_n 3, 1) := by decide +kernel
theorem dX3_mindedInAll_13 : decode cX3_mindedInAll 13 = .ok (.invokevirtual 57, 3) := by decide +kernel
theorem dX3_mindedInAll_16 : decode cX3_mindedInAll 16 = .ok (.lstore 4, 2) := by decide +kernel
theorem dX3_mindedInAll_18 : decode cX3_mindedInAll 18 = .ok (.lload 4, 2) := by decide +kernel
theorem dX3_mindedInAll_20 : decode cX3_mindedInAll 20 = .ok (.ldc2_w 61, 3) := by decide +kernel
theorem dX3_mindedInAll_23 : decode cX3_mindedInAll 23 = .ok (.lcmp, 1) := by decide +kernel
theorem dX3_mindedInAll_24 : decode cX3_mindedInAll 24 = .ok (.ifCond .lt 5, 3) := by decide +kernel
theorem dX3_mindedInAll_27 : decode cX3_mindedInAll 27 = .ok (.iconst (-1), 1) := by decide +kernel
theorem dX3_mindedInAll_28 : decode cX3_mindedInAll 28 = .ok (.ireturn, 1) := by decide +kernel
theorem dX3_mindedInAll_29 : decode cX3_mindedInAll 29 = .ok (.iload_n 2, 1) := by decide +kernel
theorem dX3_mindedInAll_30 : decode cX3_mindedInAll 30 = .ok (.lload 4, 2) := by decide +kernel
theorem dX3_mindedInAll_32 : decode cX3_mindedInAll 32 = .ok (.bipush 24, 2) := by decide +kernel
theorem dX3_mindedInAll_34 : decode cX3_mindedInAll 34 = .ok (.lshr, 1) := by decide +kernel
theorem dX3_mindedInAll_35 : decode cX3_mindedInAll 35 = .ok (.l2i, 1) := by decide +kernel
theorem dX3_mindedInAll_36 : decode cX3_mindedInAll 36 = .ok (.iadd, 1) := by decide +kernel
theorem dX3_mindedInAll_37 : decode cX3_mindedInAll 37 = .ok (.istore_n 2, 1) := by decide +kernel
theorem dX3_mindedInAll_38 : decode cX3_mindedInAll 38 = .ok (.iinc 3 1, 3) := by decide +kernel
theorem dX3_mindedInAll_41 : decode cX3_mindedInAll 41 = .ok (.goto (-37), 3) := by decide +kernel
theorem dX3_mindedInAll_44 : decode cX3_mindedInAll 44 = .ok (.iload_n 2, 1) := by decide +kernel
theorem dX3_mindedInAll_45 : decode cX3_mindedInAll 45 = .ok (.ireturn, 1) := by decide +kernel
theorem dX3_lightestWay_0 : decode cX3_lightestWay 0 = .ok (.aload_n 0, 1) := by decide +kernel
theorem dX3_lightestWay_1 : decode cX3_lightestWay 1 = .ok (.aload_n 1, 1) := by decide +kernel
theorem dX3_lightestWay_2 : decode cX3_lightestWay 2 = .ok (.iload_n 2, 1) := by decide +kernel
theorem dX3_lightestWay_3 : decode cX3_lightestWay 3 = .ok (.iconst 1, 1) := by decide +kernel
theorem dX3_lightestWay_4 : decode cX3_lightestWay 4 = .ok (.invokevirtual 49, 3) := by decide +kernel
theorem dX3_lightestWay_7 : decode cX3_lightestWay 7 = .ok (.aload_n 0, 1) := by decide +kernel
theorem dX3_lightestWay_8 : decode cX3_lightestWay 8 = .ok (.getfield 25, 3) := by decide +kernel
theorem dX3_lightestWay_11 : decode cX3_lightestWay 11 = .ok (.ldc2_w 61, 3) := by decide +kernel
theorem dX3_lightestWay_14 : decode cX3_lightestWay 14 = .ok (.invokestatic 63, 3) := by decide +kernel
theorem dX3_lightestWay_17 : decode cX3_lightestWay 17 = .ok (.aload_n 0, 1) := by decide +kernel
theorem dX3_lightestWay_18 : decode cX3_lightestWay 18 = .ok (.getfield 25, 3) := by decide +kernel
theorem dX3_lightestWay_21 : decode cX3_lightestWay 21 = .ok (.iconst 0, 1) := by decide +kernel
theorem dX3_lightestWay_22 : decode cX3_lightestWay 22 = .ok (.lconst 0, 1) := by decide +kernel
theorem dX3_lightestWay_23 : decode cX3_lightestWay 23 = .ok (.lastore, 1) := by decide +kernel
theorem dX3_lightestWay_24 : decode cX3_lightestWay 24 = .ok (.iconst 0, 1) := by decide +kernel
theorem dX3_lightestWay_25 : decode cX3_lightestWay 25 = .ok (.istore_n 3, 1) := by decide +kernel
theorem dX3_lightestWay_26 : decode cX3_lightestWay 26 = .ok (.iload_n 3, 1) := by decide +kernel
theorem dX3_lightestWay_27 : decode cX3_lightestWay 27 = .ok (.aload_n 0, 1) := by decide +kernel
theorem dX3_lightestWay_28 : decode cX3_lightestWay 28 = .ok (.getfield 69, 3) := by decide +kernel
theorem dX3_lightestWay_31 : decode cX3_lightestWay 31 = .ok (.getfield 39, 3) := by decide +kernel
theorem dX3_lightestWay_34 : decode cX3_lightestWay 34 = .ok (.if_icmp .ge 106, 3) := by decide +kernel
theorem dX3_lightestWay_37 : decode cX3_lightestWay 37 = .ok (.aload_n 0, 1) := by decide +kernel
theorem dX3_lightestWay_38 : decode cX3_lightestWay 38 = .ok (.iload_n 3, 1) := by decide +kernel
theorem dX3_lightestWay_39 : decode cX3_lightestWay 39 = .ok (.invokevirtual 73, 3) := by decide +kernel
theorem dX3_lightestWay_42 : decode cX3_lightestWay 42 = .ok (.aload_n 0, 1) := by decide +kernel
theorem dX3_lightestWay_43 : decode cX3_lightestWay 43 = .ok (.getfield 77, 3) := by decide +kernel
theorem dX3_lightestWay_46 : decode cX3_lightestWay 46 = .ok (.istore 4, 2) := by decide +kernel
theorem dX3_lightestWay_48 : decode cX3_lightestWay 48 = .ok (.iload 4, 2) := by decide +kernel
theorem dX3_lightestWay_50 : decode cX3_lightestWay 50 = .ok (.ifCond .le 84, 3) := by decide +kernel
theorem dX3_lightestWay_53 : decode cX3_lightestWay 53 = .ok (.iload 4, 2) := by decide +kernel
theorem dX3_lightestWay_55 : decode cX3_lightestWay 55 = .ok (.aload_n 0, 1) := by decide +kernel
theorem dX3_lightestWay_56 : decode cX3_lightestWay 56 = .ok (.getfield 9, 3) := by decide +kernel
theorem dX3_lightestWay_59 : decode cX3_lightestWay 59 = .ok (.iload_n 3, 1) := by decide +kernel
theorem dX3_lightestWay_60 : decode cX3_lightestWay 60 = .ok (.iaload, 1) := by decide +kernel
theorem dX3_lightestWay_61 : decode cX3_lightestWay 61 = .ok (.iand, 1) := by decide +kernel
theorem dX3_lightestWay_62 : decode cX3_lightestWay 62 = .ok (.istore 5, 2) := by decide +kernel
theorem dX3_lightestWay_64 : decode cX3_lightestWay 64 = .ok (.iload 5, 2) := by decide +kernel
theorem dX3_lightestWay_66 : decode cX3_lightestWay 66 = .ok (.istore 6, 2) := by decide +kernel
theorem dX3_lightestWay_68 : decode cX3_lightestWay 68 = .ok (.iload 6, 2) := by decide +kernel
theorem dX3_lightestWay_70 : decode cX3_lightestWay 70 = .ok (.ifCond .le 50, 3) := by decide +kernel
theorem dX3_lightestWay_73 : decode cX3_lightestWay 73 = .ok (.aload_n 0, 1) := by decide +kernel
theorem dX3_lightestWay_74 : decode cX3_lightestWay 74 = .ok (.getfield 25, 3) := by decide +kernel
theorem dX3_lightestWay_77 : decode cX3_lightestWay 77 = .ok (.iload 4, 2) := by decide +kernel
theorem dX3_lightestWay_79 : decode cX3_lightestWay 79 = .ok (.aload_n 0, 1) := by decide +kernel
theorem dX3_lightestWay_80 : decode cX3_lightestWay 80 = .ok (.getfield 25, 3) := by decide +kernel
theorem dX3_lightestWay_83 : decode cX3_lightestWay 83 = .ok (.iload 4, 2) := by decide +kernel
theorem dX3_lightestWay_85 : decode cX3_lightestWay 85 = .ok (.laload, 1) := by decide +kernel
theorem dX3_lightestWay_86 : decode cX3_lightestWay 86 = .ok (.aload_n 0, 1) := by decide +kernel
theorem dX3_lightestWay_87 : decode cX3_lightestWay 87 = .ok (.getfield 25, 3) := by decide +kernel
theorem dX3_lightestWay_90 : decode cX3_lightestWay 90 = .ok (.iload 4, 2) := by decide +kernel
theorem dX3_lightestWay_92 : decode cX3_lightestWay 92 = .ok (.iload 6, 2) := by decide +kernel
theorem dX3_lightestWay_94 : decode cX3_lightestWay 94 = .ok (.ixor, 1) := by decide +kernel
theorem dX3_lightestWay_95 : decode cX3_lightestWay 95 = .ok (.laload, 1) := by decide +kernel
theorem dX3_lightestWay_96 : decode cX3_lightestWay 96 = .ok (.aload_n 0, 1) := by decide +kernel
theorem dX3_lightestWay_97 : decode cX3_lightestWay 97 = .ok (.getfield 22, 3) := by decide +kernel
theorem dX3_lightestWay_100 : decode cX3_lightestWay 100 = .ok (.iload 6, 2) := by decide +kernel
theorem dX3_lightestWay_102 : decode cX3_lightestWay 102 = .ok (.laload, 1) := by decide +kernel
theorem dX3_lightestWay_103 : decode cX3_lightestWay 103 = .ok (.ladd, 1) := by decide +kernel
theorem dX3_lightestWay_104 : decode cX3_lightestWay 104 = .ok (.invokestatic 80, 3) := by decide +kernel
theorem dX3_lightestWay_107 : decode cX3_lightestWay 107 = .ok (.lastore, 1) := by decide +kernel
theorem dX3_lightestWay_108 : decode cX3_lightestWay 108 = .ok (.iload 6, 2) := by decide +kernel
theorem dX3_lightestWay_110 : decode cX3_lightestWay 110 = .ok (.iconst 1, 1) := by decide +kernel
theorem dX3_lightestWay_111 : decode cX3_lightestWay 111 = .ok (.isub, 1) := by decide +kernel
theorem dX3_lightestWay_112 : decode cX3_lightestWay 112 = .ok (.iload 5, 2) := by decide +kernel
theorem dX3_lightestWay_114 : decode cX3_lightestWay 114 = .ok (.iand, 1) := by decide +kernel
theorem dX3_lightestWay_115 : decode cX3_lightestWay 115 = .ok (.istore 6, 2) := by decide +kernel
theorem dX3_lightestWay_117 : decode cX3_lightestWay 117 = .ok (.goto (-49), 3) := by decide +kernel
theorem dX3_lightestWay_120 : decode cX3_lightestWay 120 = .ok (.iload 4, 2) := by decide +kernel
theorem dX3_lightestWay_122 : decode cX3_lightestWay 122 = .ok (.iconst 1, 1) := by decide +kernel
theorem dX3_lightestWay_123 : decode cX3_lightestWay 123 = .ok (.isub, 1) := by decide +kernel
theorem dX3_lightestWay_124 : decode cX3_lightestWay 124 = .ok (.aload_n 0, 1) := by decide +kernel
theorem dX3_lightestWay_125 : decode cX3_lightestWay 125 = .ok (.getfield 77, 3) := by decide +kernel
theorem dX3_lightestWay_128 : decode cX3_lightestWay 128 = .ok (.iand, 1) := by decide +kernel
theorem dX3_lightestWay_129 : decode cX3_lightestWay 129 = .ok (.istore 4, 2) := by decide +kernel
theorem dX3_lightestWay_131 : decode cX3_lightestWay 131 = .ok (.goto (-83), 3) := by decide +kernel
theorem dX3_lightestWay_134 : decode cX3_lightestWay 134 = .ok (.iinc 3 1, 3) := by decide +kernel
theorem dX3_lightestWay_137 : decode cX3_lightestWay 137 = .ok (.goto (-111), 3) := by decide +kernel
theorem dX3_lightestWay_140 : decode cX3_lightestWay 140 = .ok (.aload_n 0, 1) := by decide +kernel
theorem dX3_lightestWay_141 : decode cX3_lightestWay 141 = .ok (.getfield 25, 3) := by decide +kernel
theorem dX3_lightestWay_144 : decode cX3_lightestWay 144 = .ok (.aload_n 0, 1) := by decide +kernel
theorem dX3_lightestWay_145 : decode cX3_lightestWay 145 = .ok (.getfield 77, 3) := by decide +kernel
theorem dX3_lightestWay_148 : decode cX3_lightestWay 148 = .ok (.laload, 1) := by decide +kernel
theorem dX3_lightestWay_149 : decode cX3_lightestWay 149 = .ok (.lreturn, 1) := by decide +kernel
theorem dX3_player_0 : decode cX3_player 0 = .ok (.aload_n 0, 1) := by decide +kernel
theorem dX3_player_1 : decode cX3_player 1 = .ok (.getfield 77, 3) := by decide +kernel
theorem dX3_player_4 : decode cX3_player 4 = .ok (.iload_n 1, 1) := by decide +kernel
theorem dX3_player_5 : decode cX3_player 5 = .ok (.ishr, 1) := by decide +kernel
theorem dX3_player_6 : decode cX3_player 6 = .ok (.iconst 1, 1) := by decide +kernel
theorem dX3_player_7 : decode cX3_player 7 = .ok (.iand, 1) := by decide +kernel
theorem dX3_player_8 : decode cX3_player 8 = .ok (.ifCond .ne 5, 3) := by decide +kernel
theorem dX3_player_11 : decode cX3_player 11 = .ok (.iconst (-1), 1) := by decide +kernel
theorem dX3_player_12 : decode cX3_player 12 = .ok (.ireturn, 1) := by decide +kernel
theorem dX3_player_13 : decode cX3_player 13 = .ok (.aload_n 0, 1) := by decide +kernel
theorem dX3_player_14 : decode cX3_player 14 = .ok (.getfield 25, 3) := by decide +kernel
theorem dX3_player_17 : decode cX3_player 17 = .ok (.aload_n 0, 1) := by decide +kernel
theorem dX3_player_18 : decode cX3_player 18 = .ok (.getfield 77, 3) := by decide +kernel
theorem dX3_player_21 : decode cX3_player 21 = .ok (.laload, 1) := by decide +kernel
theorem dX3_player_22 : decode cX3_player 22 = .ok (.iload_n 1, 1) := by decide +kernel
theorem dX3_player_23 : decode cX3_player 23 = .ok (.invokestatic 86, 3) := by decide +kernel
theorem dX3_player_26 : decode cX3_player 26 = .ok (.lshr, 1) := by decide +kernel
theorem dX3_player_27 : decode cX3_player 27 = .ok (.l2i, 1) := by decide +kernel
theorem dX3_player_28 : decode cX3_player 28 = .ok (.bipush 7, 2) := by decide +kernel
theorem dX3_player_30 : decode cX3_player 30 = .ok (.iand, 1) := by decide +kernel
theorem dX3_player_31 : decode cX3_player 31 = .ok (.ireturn, 1) := by decide +kernel
theorem dX3_howManyWays_0 : decode cX3_howManyWays 0 = .ok (.aload_n 0, 1) := by decide +kernel
theorem dX3_howManyWays_1 : decode cX3_howManyWays 1 = .ok (.aload_n 1, 1) := by decide +kernel
theorem dX3_howManyWays_2 : decode cX3_howManyWays 2 = .ok (.iload_n 2, 1) := by decide +kernel
theorem dX3_howManyWays_3 : decode cX3_howManyWays 3 = .ok (.iconst 0, 1) := by decide +kernel
theorem dX3_howManyWays_4 : decode cX3_howManyWays 4 = .ok (.invokevirtual 49, 3) := by decide +kernel
theorem dX3_howManyWays_7 : decode cX3_howManyWays 7 = .ok (.aload_n 0, 1) := by decide +kernel
theorem dX3_howManyWays_8 : decode cX3_howManyWays 8 = .ok (.getfield 28, 3) := by decide +kernel
theorem dX3_howManyWays_11 : decode cX3_howManyWays 11 = .ok (.iconst 0, 1) := by decide +kernel
theorem dX3_howManyWays_12 : decode cX3_howManyWays 12 = .ok (.invokestatic 90, 3) := by decide +kernel
theorem dX3_howManyWays_15 : decode cX3_howManyWays 15 = .ok (.aload_n 0, 1) := by decide +kernel
theorem dX3_howManyWays_16 : decode cX3_howManyWays 16 = .ok (.getfield 28, 3) := by decide +kernel
theorem dX3_howManyWays_19 : decode cX3_howManyWays 19 = .ok (.iconst 0, 1) := by decide +kernel
theorem dX3_howManyWays_20 : decode cX3_howManyWays 20 = .ok (.iconst 1, 1) := by decide +kernel
theorem dX3_howManyWays_21 : decode cX3_howManyWays 21 = .ok (.iastore, 1) := by decide +kernel
theorem dX3_howManyWays_22 : decode cX3_howManyWays 22 = .ok (.iconst 0, 1) := by decide +kernel
theorem dX3_howManyWays_23 : decode cX3_howManyWays 23 = .ok (.istore_n 3, 1) := by decide +kernel
theorem dX3_howManyWays_24 : decode cX3_howManyWays 24 = .ok (.iload_n 3, 1) := by decide +kernel
theorem dX3_howManyWays_25 : decode cX3_howManyWays 25 = .ok (.aload_n 0, 1) := by decide +kernel
theorem dX3_howManyWays_26 : decode cX3_howManyWays 26 = .ok (.getfield 69, 3) := by decide +kernel
theorem dX3_howManyWays_29 : decode cX3_howManyWays 29 = .ok (.getfield 39, 3) := by decide +kernel
theorem dX3_howManyWays_32 : decode cX3_howManyWays 32 = .ok (.if_icmp .ge 109, 3) := by decide +kernel
theorem dX3_howManyWays_35 : decode cX3_howManyWays 35 = .ok (.aload_n 0, 1) := by decide +kernel
theorem dX3_howManyWays_36 : decode cX3_howManyWays 36 = .ok (.iload_n 3, 1) := by decide +kernel
theorem dX3_howManyWays_37 : decode cX3_howManyWays 37 = .ok (.invokevirtual 73, 3) := by decide +kernel
theorem dX3_howManyWays_40 : decode cX3_howManyWays 40 = .ok (.aload_n 0, 1) := by decide +kernel
theorem dX3_howManyWays_41 : decode cX3_howManyWays 41 = .ok (.getfield 77, 3) := by decide +kernel
theorem dX3_howManyWays_44 : decode cX3_howManyWays 44 = .ok (.istore 4, 2) := by decide +kernel
theorem dX3_howManyWays_46 : decode cX3_howManyWays 46 = .ok (.iload 4, 2) := by decide +kernel
theorem dX3_howManyWays_48 : decode cX3_howManyWays 48 = .ok (.ifCond .le 87, 3) := by decide +kernel
theorem dX3_howManyWays_51 : decode cX3_howManyWays 51 = .ok (.iload 4, 2) := by decide +kernel
theorem dX3_howManyWays_53 : decode cX3_howManyWays 53 = .ok (.aload_n 0, 1) := by decide +kernel
theorem dX3_howManyWays_54 : decode cX3_howManyWays 54 = .ok (.getfield 9, 3) := by decide +kernel
theorem dX3_howManyWays_57 : decode cX3_howManyWays 57 = .ok (.iload_n 3, 1) := by decide +kernel
theorem dX3_howManyWays_58 : decode cX3_howManyWays 58 = .ok (.iaload, 1) := by decide +kernel
theorem dX3_howManyWays_59 : decode cX3_howManyWays 59 = .ok (.iand, 1) := by decide +kernel
theorem dX3_howManyWays_60 : decode cX3_howManyWays 60 = .ok (.istore 5, 2) := by decide +kernel
theorem dX3_howManyWays_62 : decode cX3_howManyWays 62 = .ok (.iload 5, 2) := by decide +kernel
theorem dX3_howManyWays_64 : decode cX3_howManyWays 64 = .ok (.istore 6, 2) := by decide +kernel
theorem dX3_howManyWays_66 : decode cX3_howManyWays 66 = .ok (.iload 6, 2) := by decide +kernel
theorem dX3_howManyWays_68 : decode cX3_howManyWays 68 = .ok (.ifCond .le 53, 3) := by decide +kernel
theorem dX3_howManyWays_71 : decode cX3_howManyWays 71 = .ok (.aload_n 0, 1) := by decide +kernel
theorem dX3_howManyWays_72 : decode cX3_howManyWays 72 = .ok (.getfield 28, 3) := by decide +kernel
theorem dX3_howManyWays_75 : decode cX3_howManyWays 75 = .ok (.iload 4, 2) := by decide +kernel
theorem dX3_howManyWays_77 : decode cX3_howManyWays 77 = .ok (.dup2, 1) := by decide +kernel
theorem dX3_howManyWays_78 : decode cX3_howManyWays 78 = .ok (.iaload, 1) := by decide +kernel
theorem dX3_howManyWays_79 : decode cX3_howManyWays 79 = .ok (.aload_n 0, 1) := by decide +kernel
theorem dX3_howManyWays_80 : decode cX3_howManyWays 80 = .ok (.getfield 22, 3) := by decide +kernel
theorem dX3_howManyWays_83 : decode cX3_howManyWays 83 = .ok (.iload 6, 2) := by decide +kernel
theorem dX3_howManyWays_85 : decode cX3_howManyWays 85 = .ok (.laload, 1) := by decide +kernel
theorem dX3_howManyWays_86 : decode cX3_howManyWays 86 = .ok (.ldc2_w 61, 3) := by decide +kernel
theorem dX3_howManyWays_89 : decode cX3_howManyWays 89 = .ok (.lcmp, 1) := by decide +kernel
theorem dX3_howManyWays_90 : decode cX3_howManyWays 90 = .ok (.ifCond .ge 16, 3) := by decide +kernel
theorem dX3_howManyWays_93 : decode cX3_howManyWays 93 = .ok (.aload_n 0, 1) := by decide +kernel
theorem dX3_howManyWays_94 : decode cX3_howManyWays 94 = .ok (.getfield 28, 3) := by decide +kernel
theorem dX3_howManyWays_97 : decode cX3_howManyWays 97 = .ok (.iload 4, 2) := by decide +kernel
theorem dX3_howManyWays_99 : decode cX3_howManyWays 99 = .ok (.iload 6, 2) := by decide +kernel
theorem dX3_howManyWays_101 : decode cX3_howManyWays 101 = .ok (.ixor, 1) := by decide +kernel
theorem dX3_howManyWays_102 : decode cX3_howManyWays 102 = .ok (.iaload, 1) := by decide +kernel
theorem dX3_howManyWays_103 : decode cX3_howManyWays 103 = .ok (.goto 4, 3) := by decide +kernel
theorem dX3_howManyWays_106 : decode cX3_howManyWays 106 = .ok (.iconst 0, 1) := by decide +kernel
theorem dX3_howManyWays_107 : decode cX3_howManyWays 107 = .ok (.iadd, 1) := by decide +kernel
theorem dX3_howManyWays_108 : decode cX3_howManyWays 108 = .ok (.iastore, 1) := by decide +kernel
theorem dX3_howManyWays_109 : decode cX3_howManyWays 109 = .ok (.iload 6, 2) := by decide +kernel
theorem dX3_howManyWays_111 : decode cX3_howManyWays 111 = .ok (.iconst 1, 1) := by decide +kernel
theorem dX3_howManyWays_112 : decode cX3_howManyWays 112 = .ok (.isub, 1) := by decide +kernel
theorem dX3_howManyWays_113 : decode cX3_howManyWays 113 = .ok (.iload 5, 2) := by decide +kernel
theorem dX3_howManyWays_115 : decode cX3_howManyWays 115 = .ok (.iand, 1) := by decide +kernel
theorem dX3_howManyWays_116 : decode cX3_howManyWays 116 = .ok (.istore 6, 2) := by decide +kernel
theorem dX3_howManyWays_118 : decode cX3_howManyWays 118 = .ok (.goto (-52), 3) := by decide +kernel
theorem dX3_howManyWays_121 : decode cX3_howManyWays 121 = .ok (.iload 4, 2) := by decide +kernel
theorem dX3_howManyWays_123 : decode cX3_howManyWays 123 = .ok (.iconst 1, 1) := by decide +kernel
theorem dX3_howManyWays_124 : decode cX3_howManyWays 124 = .ok (.isub, 1) := by decide +kernel
theorem dX3_howManyWays_125 : decode cX3_howManyWays 125 = .ok (.aload_n 0, 1) := by decide +kernel
theorem dX3_howManyWays_126 : decode cX3_howManyWays 126 = .ok (.getfield 77, 3) := by decide +kernel
theorem dX3_howManyWays_129 : decode cX3_howManyWays 129 = .ok (.iand, 1) := by decide +kernel
theorem dX3_howManyWays_130 : decode cX3_howManyWays 130 = .ok (.istore 4, 2) := by decide +kernel
theorem dX3_howManyWays_132 : decode cX3_howManyWays 132 = .ok (.goto (-86), 3) := by decide +kernel
theorem dX3_howManyWays_135 : decode cX3_howManyWays 135 = .ok (.iinc 3 1, 3) := by decide +kernel
theorem dX3_howManyWays_138 : decode cX3_howManyWays 138 = .ok (.goto (-114), 3) := by decide +kernel
theorem dX3_howManyWays_141 : decode cX3_howManyWays 141 = .ok (.aload_n 0, 1) := by decide +kernel
theorem dX3_howManyWays_142 : decode cX3_howManyWays 142 = .ok (.getfield 28, 3) := by decide +kernel
theorem dX3_howManyWays_145 : decode cX3_howManyWays 145 = .ok (.aload_n 0, 1) := by decide +kernel
theorem dX3_howManyWays_146 : decode cX3_howManyWays 146 = .ok (.getfield 77, 3) := by decide +kernel
theorem dX3_howManyWays_149 : decode cX3_howManyWays 149 = .ok (.iaload, 1) := by decide +kernel
theorem dX3_howManyWays_150 : decode cX3_howManyWays 150 = .ok (.ireturn, 1) := by decide +kernel
theorem dX3_whoCould_0 : decode cX3_whoCould 0 = .ok (.aload_n 0, 1) := by decide +kernel
theorem dX3_whoCould_1 : decode cX3_whoCould 1 = .ok (.aload_n 1, 1) := by decide +kernel
theorem dX3_whoCould_2 : decode cX3_whoCould 2 = .ok (.iload_n 2, 1) := by decide +kernel
theorem dX3_whoCould_3 : decode cX3_whoCould 3 = .ok (.iconst 0, 1) := by decide +kernel
theorem dX3_whoCould_4 : decode cX3_whoCould 4 = .ok (.invokevirtual 49, 3) := by decide +kernel
theorem dX3_whoCould_7 : decode cX3_whoCould 7 = .ok (.aload_n 0, 1) := by decide +kernel
theorem dX3_whoCould_8 : decode cX3_whoCould 8 = .ok (.getfield 9, 3) := by decide +kernel
theorem dX3_whoCould_11 : decode cX3_whoCould 11 = .ok (.iconst 0, 1) := by decide +kernel
theorem dX3_whoCould_12 : decode cX3_whoCould 12 = .ok (.aload_n 0, 1) := by decide +kernel
theorem dX3_whoCould_13 : decode cX3_whoCould 13 = .ok (.getfield 15, 3) := by decide +kernel
theorem dX3_whoCould_16 : decode cX3_whoCould 16 = .ok (.iconst 0, 1) := by decide +kernel
theorem dX3_whoCould_17 : decode cX3_whoCould 17 = .ok (.bipush 6, 2) := by decide +kernel
theorem dX3_whoCould_19 : decode cX3_whoCould 19 = .ok (.invokestatic 93, 3) := by decide +kernel
theorem dX3_whoCould_22 : decode cX3_whoCould 22 = .ok (.iconst 1, 1) := by decide +kernel
theorem dX3_whoCould_23 : decode cX3_whoCould 23 = .ok (.aload_n 1, 1) := by decide +kernel
theorem dX3_whoCould_24 : decode cX3_whoCould 24 = .ok (.getfield 39, 3) := by decide +kernel
theorem dX3_whoCould_27 : decode cX3_whoCould 27 = .ok (.ishl, 1) := by decide +kernel
theorem dX3_whoCould_28 : decode cX3_whoCould 28 = .ok (.iconst 1, 1) := by decide +kernel
theorem dX3_whoCould_29 : decode cX3_whoCould 29 = .ok (.isub, 1) := by decide +kernel
theorem dX3_whoCould_30 : decode cX3_whoCould 30 = .ok (.istore 4, 2) := by decide +kernel
theorem dX3_whoCould_32 : decode cX3_whoCould 32 = .ok (.iconst 0, 1) := by decide +kernel
theorem dX3_whoCould_33 : decode cX3_whoCould 33 = .ok (.istore 5, 2) := by decide +kernel
theorem dX3_whoCould_35 : decode cX3_whoCould 35 = .ok (.iconst 0, 1) := by decide +kernel
theorem dX3_whoCould_36 : decode cX3_whoCould 36 = .ok (.istore 6, 2) := by decide +kernel
theorem dX3_whoCould_38 : decode cX3_whoCould 38 = .ok (.iload 6, 2) := by decide +kernel
theorem dX3_whoCould_40 : decode cX3_whoCould 40 = .ok (.aload_n 1, 1) := by decide +kernel
theorem dX3_whoCould_41 : decode cX3_whoCould 41 = .ok (.getfield 39, 3) := by decide +kernel
theorem dX3_whoCould_44 : decode cX3_whoCould 44 = .ok (.if_icmp .ge 53, 3) := by decide +kernel
theorem dX3_whoCould_47 : decode cX3_whoCould 47 = .ok (.aload_n 0, 1) := by decide +kernel
theorem dX3_whoCould_48 : decode cX3_whoCould 48 = .ok (.getfield 15, 3) := by decide +kernel
theorem dX3_whoCould_51 : decode cX3_whoCould 51 = .ok (.iload 6, 2) := by decide +kernel
theorem dX3_whoCould_53 : decode cX3_whoCould 53 = .ok (.iaload, 1) := by decide +kernel
theorem dX3_whoCould_54 : decode cX3_whoCould 54 = .ok (.iload_n 3, 1) := by decide +kernel
theorem dX3_whoCould_55 : decode cX3_whoCould 55 = .ok (.ishr, 1) := by decide +kernel
theorem dX3_whoCould_56 : decode cX3_whoCould 56 = .ok (.iconst 1, 1) := by decide +kernel
theorem dX3_whoCould_57 : decode cX3_whoCould 57 = .ok (.iand, 1) := by decide +kernel
theorem dX3_whoCould_58 : decode cX3_whoCould 58 = .ok (.iconst 1, 1) := by decide +kernel
theorem dX3_whoCould_59 : decode cX3_whoCould 59 = .ok (.if_icmp .ne 32, 3) := by decide +kernel
theorem dX3_whoCould_62 : decode cX3_whoCould 62 = .ok (.aload_n 0, 1) := by decide +kernel
theorem dX3_whoCould_63 : decode cX3_whoCould 63 = .ok (.iload 6, 2) := by decide +kernel
theorem dX3_whoCould_65 : decode cX3_whoCould 65 = .ok (.iload_n 3, 1) := by decide +kernel
theorem dX3_whoCould_66 : decode cX3_whoCould 66 = .ok (.invokevirtual 99, 3) := by decide +kernel
theorem dX3_whoCould_69 : decode cX3_whoCould 69 = .ok (.iload 5, 2) := by decide +kernel
theorem dX3_whoCould_71 : decode cX3_whoCould 71 = .ok (.aload_n 0, 1) := by decide +kernel
theorem dX3_whoCould_72 : decode cX3_whoCould 72 = .ok (.iload 4, 2) := by decide +kernel
theorem dX3_whoCould_74 : decode cX3_whoCould 74 = .ok (.invokevirtual 53, 3) := by decide +kernel
theorem dX3_whoCould_77 : decode cX3_whoCould 77 = .ok (.ifCond .eq 10, 3) := by decide +kernel
theorem dX3_whoCould_80 : decode cX3_whoCould 80 = .ok (.iconst 1, 1) := by decide +kernel
theorem dX3_whoCould_81 : decode cX3_whoCould 81 = .ok (.iload 6, 2) := by decide +kernel
theorem dX3_whoCould_83 : decode cX3_whoCould 83 = .ok (.ishl, 1) := by decide +kernel
theorem dX3_whoCould_84 : decode cX3_whoCould 84 = .ok (.goto 4, 3) := by decide +kernel
theorem dX3_whoCould_87 : decode cX3_whoCould 87 = .ok (.iconst 0, 1) := by decide +kernel
theorem dX3_whoCould_88 : decode cX3_whoCould 88 = .ok (.ior, 1) := by decide +kernel
theorem dX3_whoCould_89 : decode cX3_whoCould 89 = .ok (.istore 5, 2) := by decide +kernel
theorem dX3_whoCould_91 : decode cX3_whoCould 91 = .ok (.iinc 6 1, 3) := by decide +kernel
theorem dX3_whoCould_94 : decode cX3_whoCould 94 = .ok (.goto (-56), 3) := by decide +kernel
theorem dX3_whoCould_97 : decode cX3_whoCould 97 = .ok (.iload 5, 2) := by decide +kernel
theorem dX3_whoCould_99 : decode cX3_whoCould 99 = .ok (.ireturn, 1) := by decide +kernel
theorem dX3_fewestHouses_0 : decode cX3_fewestHouses 0 = .ok (.iconst 1, 1) := by decide +kernel
theorem dX3_fewestHouses_1 : decode cX3_fewestHouses 1 = .ok (.aload_n 1, 1) := by decide +kernel
theorem dX3_fewestHouses_2 : decode cX3_fewestHouses 2 = .ok (.getfield 39, 3) := by decide +kernel
theorem dX3_fewestHouses_5 : decode cX3_fewestHouses 5 = .ok (.ishl, 1) := by decide +kernel
theorem dX3_fewestHouses_6 : decode cX3_fewestHouses 6 = .ok (.iconst 1, 1) := by decide +kernel
theorem dX3_fewestHouses_7 : decode cX3_fewestHouses 7 = .ok (.isub, 1) := by decide +kernel
theorem dX3_fewestHouses_8 : decode cX3_fewestHouses 8 = .ok (.istore_n 2, 1) := by decide +kernel
theorem dX3_fewestHouses_9 : decode cX3_fewestHouses 9 = .ok (.iconst 0, 1) := by decide +kernel
theorem dX3_fewestHouses_10 : decode cX3_fewestHouses 10 = .ok (.istore_n 3, 1) := by decide +kernel
theorem dX3_fewestHouses_11 : decode cX3_fewestHouses 11 = .ok (.iload_n 3, 1) := by decide +kernel
theorem dX3_fewestHouses_12 : decode cX3_fewestHouses 12 = .ok (.iload_n 2, 1) := by decide +kernel
theorem dX3_fewestHouses_13 : decode cX3_fewestHouses 13 = .ok (.if_icmp .gt 16, 3) := by decide +kernel
theorem dX3_fewestHouses_16 : decode cX3_fewestHouses 16 = .ok (.aload_n 0, 1) := by decide +kernel
theorem dX3_fewestHouses_17 : decode cX3_fewestHouses 17 = .ok (.getfield 31, 3) := by decide +kernel
theorem dX3_fewestHouses_20 : decode cX3_fewestHouses 20 = .ok (.iload_n 3, 1) := by decide +kernel
theorem dX3_fewestHouses_21 : decode cX3_fewestHouses 21 = .ok (.iconst 1, 1) := by decide +kernel
theorem dX3_fewestHouses_22 : decode cX3_fewestHouses 22 = .ok (.bastore, 1) := by decide +kernel
theorem dX3_fewestHouses_23 : decode cX3_fewestHouses 23 = .ok (.iinc 3 1, 3) := by decide +kernel
theorem dX3_fewestHouses_26 : decode cX3_fewestHouses 26 = .ok (.goto (-15), 3) := by decide +kernel
theorem dX3_fewestHouses_29 : decode cX3_fewestHouses 29 = .ok (.iconst 0, 1) := by decide +kernel
theorem dX3_fewestHouses_30 : decode cX3_fewestHouses 30 = .ok (.istore_n 3, 1) := by decide +kernel
theorem dX3_fewestHouses_31 : decode cX3_fewestHouses 31 = .ok (.iload_n 3, 1) := by decide +kernel
theorem dX3_fewestHouses_32 : decode cX3_fewestHouses 32 = .ok (.bipush 16, 2) := by decide +kernel
theorem dX3_fewestHouses_34 : decode cX3_fewestHouses 34 = .ok (.if_icmp .ge 62, 3) := by decide +kernel
theorem dX3_fewestHouses_37 : decode cX3_fewestHouses 37 = .ok (.aload_n 0, 1) := by decide +kernel
theorem dX3_fewestHouses_38 : decode cX3_fewestHouses 38 = .ok (.aload_n 1, 1) := by decide +kernel
theorem dX3_fewestHouses_39 : decode cX3_fewestHouses 39 = .ok (.iload_n 3, 1) := by decide +kernel
theorem dX3_fewestHouses_40 : decode cX3_fewestHouses 40 = .ok (.iconst 0, 1) := by decide +kernel
theorem dX3_fewestHouses_41 : decode cX3_fewestHouses 41 = .ok (.invokevirtual 49, 3) := by decide +kernel
theorem dX3_fewestHouses_44 : decode cX3_fewestHouses 44 = .ok (.iconst 0, 1) := by decide +kernel
theorem dX3_fewestHouses_45 : decode cX3_fewestHouses 45 = .ok (.istore 4, 2) := by decide +kernel
theorem dX3_fewestHouses_47 : decode cX3_fewestHouses 47 = .ok (.iload 4, 2) := by decide +kernel
theorem dX3_fewestHouses_49 : decode cX3_fewestHouses 49 = .ok (.iload_n 2, 1) := by decide +kernel
theorem dX3_fewestHouses_50 : decode cX3_fewestHouses 50 = .ok (.if_icmp .gt 40, 3) := by decide +kernel
theorem dX3_fewestHouses_53 : decode cX3_fewestHouses 53 = .ok (.aload_n 0, 1) := by decide +kernel
theorem dX3_fewestHouses_54 : decode cX3_fewestHouses 54 = .ok (.getfield 31, 3) := by decide +kernel
theorem dX3_fewestHouses_57 : decode cX3_fewestHouses 57 = .ok (.iload 4, 2) := by decide +kernel
theorem dX3_fewestHouses_59 : decode cX3_fewestHouses 59 = .ok (.aload_n 0, 1) := by decide +kernel
theorem dX3_fewestHouses_60 : decode cX3_fewestHouses 60 = .ok (.getfield 31, 3) := by decide +kernel
theorem dX3_fewestHouses_63 : decode cX3_fewestHouses 63 = .ok (.iload 4, 2) := by decide +kernel
theorem dX3_fewestHouses_65 : decode cX3_fewestHouses 65 = .ok (.baload, 1) := by decide +kernel
theorem dX3_fewestHouses_66 : decode cX3_fewestHouses 66 = .ok (.ifCond .eq 16, 3) := by decide +kernel
theorem dX3_fewestHouses_69 : decode cX3_fewestHouses 69 = .ok (.aload_n 0, 1) := by decide +kernel
theorem dX3_fewestHouses_70 : decode cX3_fewestHouses 70 = .ok (.iload 4, 2) := by decide +kernel
theorem dX3_fewestHouses_72 : decode cX3_fewestHouses 72 = .ok (.invokevirtual 53, 3) := by decide +kernel
theorem dX3_fewestHouses_75 : decode cX3_fewestHouses 75 = .ok (.ifCond .eq 7, 3) := by decide +kernel
theorem dX3_fewestHouses_78 : decode cX3_fewestHouses 78 = .ok (.iconst 1, 1) := by decide +kernel
theorem dX3_fewestHouses_79 : decode cX3_fewestHouses 79 = .ok (.goto 4, 3) := by decide +kernel
theorem dX3_fewestHouses_82 : decode cX3_fewestHouses 82 = .ok (.iconst 0, 1) := by decide +kernel
theorem dX3_fewestHouses_83 : decode cX3_fewestHouses 83 = .ok (.bastore, 1) := by decide +kernel
theorem dX3_fewestHouses_84 : decode cX3_fewestHouses 84 = .ok (.iinc 4 1, 3) := by decide +kernel
theorem dX3_fewestHouses_87 : decode cX3_fewestHouses 87 = .ok (.goto (-40), 3) := by decide +kernel
theorem dX3_fewestHouses_90 : decode cX3_fewestHouses 90 = .ok (.iinc 3 1, 3) := by decide +kernel
theorem dX3_fewestHouses_93 : decode cX3_fewestHouses 93 = .ok (.goto (-62), 3) := by decide +kernel
theorem dX3_fewestHouses_96 : decode cX3_fewestHouses 96 = .ok (.iconst (-1), 1) := by decide +kernel
theorem dX3_fewestHouses_97 : decode cX3_fewestHouses 97 = .ok (.istore_n 3, 1) := by decide +kernel
theorem dX3_fewestHouses_98 : decode cX3_fewestHouses 98 = .ok (.iconst 0, 1) := by decide +kernel
theorem dX3_fewestHouses_99 : decode cX3_fewestHouses 99 = .ok (.istore 4, 2) := by decide +kernel
theorem dX3_fewestHouses_101 : decode cX3_fewestHouses 101 = .ok (.iload 4, 2) := by decide +kernel
theorem dX3_fewestHouses_103 : decode cX3_fewestHouses 103 = .ok (.iload_n 2, 1) := by decide +kernel
theorem dX3_fewestHouses_104 : decode cX3_fewestHouses 104 = .ok (.if_icmp .gt 39, 3) := by decide +kernel
theorem dX3_fewestHouses_107 : decode cX3_fewestHouses 107 = .ok (.aload_n 0, 1) := by decide +kernel
theorem dX3_fewestHouses_108 : decode cX3_fewestHouses 108 = .ok (.getfield 31, 3) := by decide +kernel
theorem dX3_fewestHouses_111 : decode cX3_fewestHouses 111 = .ok (.iload 4, 2) := by decide +kernel
theorem dX3_fewestHouses_113 : decode cX3_fewestHouses 113 = .ok (.baload, 1) := by decide +kernel
theorem dX3_fewestHouses_114 : decode cX3_fewestHouses 114 = .ok (.ifCond .eq 23, 3) := by decide +kernel
theorem dX3_fewestHouses_117 : decode cX3_fewestHouses 117 = .ok (.iload_n 3, 1) := by decide +kernel
theorem dX3_fewestHouses_118 : decode cX3_fewestHouses 118 = .ok (.iconst (-1), 1) := by decide +kernel
theorem dX3_fewestHouses_119 : decode cX3_fewestHouses 119 = .ok (.if_icmp .eq 15, 3) := by decide +kernel
theorem dX3_fewestHouses_122 : decode cX3_fewestHouses 122 = .ok (.iload 4, 2) := by decide +kernel
theorem dX3_fewestHouses_124 : decode cX3_fewestHouses 124 = .ok (.invokestatic 103, 3) := by decide +kernel
theorem dX3_fewestHouses_127 : decode cX3_fewestHouses 127 = .ok (.iload_n 3, 1) := by decide +kernel
theorem dX3_fewestHouses_128 : decode cX3_fewestHouses 128 = .ok (.invokestatic 103, 3) := by decide +kernel
theorem dX3_fewestHouses_131 : decode cX3_fewestHouses 131 = .ok (.if_icmp .ge 6, 3) := by decide +kernel
theorem dX3_fewestHouses_134 : decode cX3_fewestHouses 134 = .ok (.iload 4, 2) := by decide +kernel
theorem dX3_fewestHouses_136 : decode cX3_fewestHouses 136 = .ok (.istore_n 3, 1) := by decide +kernel
theorem dX3_fewestHouses_137 : decode cX3_fewestHouses 137 = .ok (.iinc 4 1, 3) := by decide +kernel
theorem dX3_fewestHouses_140 : decode cX3_fewestHouses 140 = .ok (.goto (-39), 3) := by decide +kernel
theorem dX3_fewestHouses_143 : decode cX3_fewestHouses 143 = .ok (.iload_n 3, 1) := by decide +kernel
theorem dX3_fewestHouses_144 : decode cX3_fewestHouses 144 = .ok (.ireturn, 1) := by decide +kernel
theorem dX3_lookAt_0 : decode cX3_lookAt 0 = .ok (.aload_n 0, 1) := by decide +kernel
theorem dX3_lookAt_1 : decode cX3_lookAt 1 = .ok (.aload_n 1, 1) := by decide +kernel
theorem dX3_lookAt_2 : decode cX3_lookAt 2 = .ok (.putfield 69, 3) := by decide +kernel
theorem dX3_lookAt_5 : decode cX3_lookAt 5 = .ok (.aload_n 0, 1) := by decide +kernel
theorem dX3_lookAt_6 : decode cX3_lookAt 6 = .ok (.aload_n 1, 1) := by decide +kernel
theorem dX3_lookAt_7 : decode cX3_lookAt 7 = .ok (.getfield 108, 3) := by decide +kernel
theorem dX3_lookAt_10 : decode cX3_lookAt 10 = .ok (.iload_n 2, 1) := by decide +kernel
theorem dX3_lookAt_11 : decode cX3_lookAt 11 = .ok (.iaload, 1) := by decide +kernel
theorem dX3_lookAt_12 : decode cX3_lookAt 12 = .ok (.putfield 77, 3) := by decide +kernel
theorem dX3_lookAt_15 : decode cX3_lookAt 15 = .ok (.iconst 0, 1) := by decide +kernel
theorem dX3_lookAt_16 : decode cX3_lookAt 16 = .ok (.istore 4, 2) := by decide +kernel
theorem dX3_lookAt_18 : decode cX3_lookAt 18 = .ok (.iload 4, 2) := by decide +kernel
theorem dX3_lookAt_20 : decode cX3_lookAt 20 = .ok (.aload_n 1, 1) := by decide +kernel
theorem dX3_lookAt_21 : decode cX3_lookAt 21 = .ok (.getfield 39, 3) := by decide +kernel
theorem dX3_lookAt_24 : decode cX3_lookAt 24 = .ok (.if_icmp .ge 122, 3) := by decide +kernel
theorem dX3_lookAt_27 : decode cX3_lookAt 27 = .ok (.aload_n 0, 1) := by decide +kernel
theorem dX3_lookAt_28 : decode cX3_lookAt 28 = .ok (.getfield 9, 3) := by decide +kernel
theorem dX3_lookAt_31 : decode cX3_lookAt 31 = .ok (.iload 4, 2) := by decide +kernel
theorem dX3_lookAt_33 : decode cX3_lookAt 33 = .ok (.iconst 0, 1) := by decide +kernel
theorem dX3_lookAt_34 : decode cX3_lookAt 34 = .ok (.iastore, 1) := by decide +kernel
theorem dX3_lookAt_35 : decode cX3_lookAt 35 = .ok (.iconst 0, 1) := by decide +kernel
theorem dX3_lookAt_36 : decode cX3_lookAt 36 = .ok (.istore 5, 2) := by decide +kernel
theorem dX3_lookAt_38 : decode cX3_lookAt 38 = .ok (.iload 5, 2) := by decide +kernel
theorem dX3_lookAt_40 : decode cX3_lookAt 40 = .ok (.bipush 8, 2) := by decide +kernel
theorem dX3_lookAt_42 : decode cX3_lookAt 42 = .ok (.if_icmp .ge 98, 3) := by decide +kernel
theorem dX3_lookAt_45 : decode cX3_lookAt 45 = .ok (.aload_n 0, 1) := by decide +kernel
theorem dX3_lookAt_46 : decode cX3_lookAt 46 = .ok (.getfield 77, 3) := by decide +kernel
theorem dX3_lookAt_49 : decode cX3_lookAt 49 = .ok (.iload 5, 2) := by decide +kernel
theorem dX3_lookAt_51 : decode cX3_lookAt 51 = .ok (.ishr, 1) := by decide +kernel
theorem dX3_lookAt_52 : decode cX3_lookAt 52 = .ok (.iconst 1, 1) := by decide +kernel
theorem dX3_lookAt_53 : decode cX3_lookAt 53 = .ok (.iand, 1) := by decide +kernel
theorem dX3_lookAt_54 : decode cX3_lookAt 54 = .ok (.iconst 1, 1) := by decide +kernel
theorem dX3_lookAt_55 : decode cX3_lookAt 55 = .ok (.if_icmp .ne 79, 3) := by decide +kernel
theorem dX3_lookAt_58 : decode cX3_lookAt 58 = .ok (.aload_n 0, 1) := by decide +kernel
theorem dX3_lookAt_59 : decode cX3_lookAt 59 = .ok (.getfield 35, 3) := by decide +kernel
theorem dX3_lookAt_62 : decode cX3_lookAt 62 = .ok (.aload_n 1, 1) := by decide +kernel
theorem dX3_lookAt_63 : decode cX3_lookAt 63 = .ok (.iload 4, 2) := by decide +kernel
theorem dX3_lookAt_65 : decode cX3_lookAt 65 = .ok (.iload 5, 2) := by decide +kernel
theorem dX3_lookAt_67 : decode cX3_lookAt 67 = .ok (.iload_n 2, 1) := by decide +kernel
theorem dX3_lookAt_68 : decode cX3_lookAt 68 = .ok (.iload_n 3, 1) := by decide +kernel
theorem dX3_lookAt_69 : decode cX3_lookAt 69 = .ok (.invokevirtual 111, 3) := by decide +kernel
theorem dX3_lookAt_72 : decode cX3_lookAt 72 = .ok (.aload_n 0, 1) := by decide +kernel
theorem dX3_lookAt_73 : decode cX3_lookAt 73 = .ok (.getfield 9, 3) := by decide +kernel
theorem dX3_lookAt_76 : decode cX3_lookAt 76 = .ok (.iload 4, 2) := by decide +kernel
theorem dX3_lookAt_78 : decode cX3_lookAt 78 = .ok (.dup2, 1) := by decide +kernel
theorem dX3_lookAt_79 : decode cX3_lookAt 79 = .ok (.iaload, 1) := by decide +kernel
theorem dX3_lookAt_80 : decode cX3_lookAt 80 = .ok (.aload_n 0, 1) := by decide +kernel
theorem dX3_lookAt_81 : decode cX3_lookAt 81 = .ok (.getfield 35, 3) := by decide +kernel
theorem dX3_lookAt_84 : decode cX3_lookAt 84 = .ok (.getfield 117, 3) := by decide +kernel
theorem dX3_lookAt_87 : decode cX3_lookAt 87 = .ok (.ifCond .eq 10, 3) := by decide +kernel
theorem dX3_lookAt_90 : decode cX3_lookAt 90 = .ok (.iconst 1, 1) := by decide +kernel
theorem dX3_lookAt_91 : decode cX3_lookAt 91 = .ok (.iload 5, 2) := by decide +kernel
theorem dX3_lookAt_93 : decode cX3_lookAt 93 = .ok (.ishl, 1) := by decide +kernel
theorem dX3_lookAt_94 : decode cX3_lookAt 94 = .ok (.goto 4, 3) := by decide +kernel
theorem dX3_lookAt_97 : decode cX3_lookAt 97 = .ok (.iconst 0, 1) := by decide +kernel
theorem dX3_lookAt_98 : decode cX3_lookAt 98 = .ok (.ior, 1) := by decide +kernel
theorem dX3_lookAt_99 : decode cX3_lookAt 99 = .ok (.iastore, 1) := by decide +kernel
theorem dX3_lookAt_100 : decode cX3_lookAt 100 = .ok (.aload_n 0, 1) := by decide +kernel
theorem dX3_lookAt_101 : decode cX3_lookAt 101 = .ok (.getfield 18, 3) := by decide +kernel
theorem dX3_lookAt_104 : decode cX3_lookAt 104 = .ok (.iload 4, 2) := by decide +kernel
theorem dX3_lookAt_106 : decode cX3_lookAt 106 = .ok (.bipush 8, 2) := by decide +kernel
theorem dX3_lookAt_108 : decode cX3_lookAt 108 = .ok (.imul, 1) := by decide +kernel
theorem dX3_lookAt_109 : decode cX3_lookAt 109 = .ok (.iload 5, 2) := by decide +kernel
theorem dX3_lookAt_111 : decode cX3_lookAt 111 = .ok (.iadd, 1) := by decide +kernel
theorem dX3_lookAt_112 : decode cX3_lookAt 112 = .ok (.aload_n 0, 1) := by decide +kernel
theorem dX3_lookAt_113 : decode cX3_lookAt 113 = .ok (.getfield 35, 3) := by decide +kernel
theorem dX3_lookAt_116 : decode cX3_lookAt 116 = .ok (.getfield 120, 3) := by decide +kernel
theorem dX3_lookAt_119 : decode cX3_lookAt 119 = .ok (.i2l, 1) := by decide +kernel
theorem dX3_lookAt_120 : decode cX3_lookAt 120 = .ok (.bipush 24, 2) := by decide +kernel
theorem dX3_lookAt_122 : decode cX3_lookAt 122 = .ok (.lshl, 1) := by decide +kernel
theorem dX3_lookAt_123 : decode cX3_lookAt 123 = .ok (.iload 4, 2) := by decide +kernel
theorem dX3_lookAt_125 : decode cX3_lookAt 125 = .ok (.i2l, 1) := by decide +kernel
theorem dX3_lookAt_126 : decode cX3_lookAt 126 = .ok (.iload 5, 2) := by decide +kernel
theorem dX3_lookAt_128 : decode cX3_lookAt 128 = .ok (.invokestatic 86, 3) := by decide +kernel
theorem dX3_lookAt_131 : decode cX3_lookAt 131 = .ok (.lshl, 1) := by decide +kernel
theorem dX3_lookAt_132 : decode cX3_lookAt 132 = .ok (.ladd, 1) := by decide +kernel
theorem dX3_lookAt_133 : decode cX3_lookAt 133 = .ok (.lastore, 1) := by decide +kernel
theorem dX3_lookAt_134 : decode cX3_lookAt 134 = .ok (.iinc 5 1, 3) := by decide +kernel
theorem dX3_lookAt_137 : decode cX3_lookAt 137 = .ok (.goto (-99), 3) := by decide +kernel
theorem dX3_lookAt_140 : decode cX3_lookAt 140 = .ok (.iinc 4 1, 3) := by decide +kernel
theorem dX3_lookAt_143 : decode cX3_lookAt 143 = .ok (.goto (-125), 3) := by decide +kernel
theorem dX3_lookAt_146 : decode cX3_lookAt 146 = .ok (.return_, 1) := by decide +kernel
theorem dX3_leaveKeyTo_0 : decode cX3_leaveKeyTo 0 = .ok (.iconst 0, 1) := by decide +kernel
theorem dX3_leaveKeyTo_1 : decode cX3_leaveKeyTo 1 = .ok (.istore_n 3, 1) := by decide +kernel
theorem dX3_leaveKeyTo_2 : decode cX3_leaveKeyTo 2 = .ok (.iload_n 3, 1) := by decide +kernel
theorem dX3_leaveKeyTo_3 : decode cX3_leaveKeyTo 3 = .ok (.aload_n 0, 1) := by decide +kernel
theorem dX3_leaveKeyTo_4 : decode cX3_leaveKeyTo 4 = .ok (.getfield 69, 3) := by decide +kernel
theorem dX3_leaveKeyTo_7 : decode cX3_leaveKeyTo 7 = .ok (.getfield 39, 3) := by decide +kernel
theorem dX3_leaveKeyTo_10 : decode cX3_leaveKeyTo 10 = .ok (.if_icmp .ge 41, 3) := by decide +kernel
theorem dX3_leaveKeyTo_13 : decode cX3_leaveKeyTo 13 = .ok (.aload_n 0, 1) := by decide +kernel
theorem dX3_leaveKeyTo_14 : decode cX3_leaveKeyTo 14 = .ok (.getfield 9, 3) := by decide +kernel
theorem dX3_leaveKeyTo_17 : decode cX3_leaveKeyTo 17 = .ok (.iload_n 3, 1) := by decide +kernel
theorem dX3_leaveKeyTo_18 : decode cX3_leaveKeyTo 18 = .ok (.iload_n 3, 1) := by decide +kernel
theorem dX3_leaveKeyTo_19 : decode cX3_leaveKeyTo 19 = .ok (.iload_n 1, 1) := by decide +kernel
theorem dX3_leaveKeyTo_20 : decode cX3_leaveKeyTo 20 = .ok (.if_icmp .ne 12, 3) := by decide +kernel
theorem dX3_leaveKeyTo_23 : decode cX3_leaveKeyTo 23 = .ok (.aload_n 0, 1) := by decide +kernel
theorem dX3_leaveKeyTo_24 : decode cX3_leaveKeyTo 24 = .ok (.getfield 15, 3) := by decide +kernel
theorem dX3_leaveKeyTo_27 : decode cX3_leaveKeyTo 27 = .ok (.iload_n 3, 1) := by decide +kernel
theorem dX3_leaveKeyTo_28 : decode cX3_leaveKeyTo 28 = .ok (.iaload, 1) := by decide +kernel
theorem dX3_leaveKeyTo_29 : decode cX3_leaveKeyTo 29 = .ok (.goto 15, 3) := by decide +kernel
theorem dX3_leaveKeyTo_32 : decode cX3_leaveKeyTo 32 = .ok (.aload_n 0, 1) := by decide +kernel
theorem dX3_leaveKeyTo_33 : decode cX3_leaveKeyTo 33 = .ok (.getfield 15, 3) := by decide +kernel
theorem dX3_leaveKeyTo_36 : decode cX3_leaveKeyTo 36 = .ok (.iload_n 3, 1) := by decide +kernel
theorem dX3_leaveKeyTo_37 : decode cX3_leaveKeyTo 37 = .ok (.iaload, 1) := by decide +kernel
theorem dX3_leaveKeyTo_38 : decode cX3_leaveKeyTo 38 = .ok (.iconst 1, 1) := by decide +kernel
theorem dX3_leaveKeyTo_39 : decode cX3_leaveKeyTo 39 = .ok (.iload_n 2, 1) := by decide +kernel
theorem dX3_leaveKeyTo_40 : decode cX3_leaveKeyTo 40 = .ok (.ishl, 1) := by decide +kernel
theorem dX3_leaveKeyTo_41 : decode cX3_leaveKeyTo 41 = .ok (.iconst (-1), 1) := by decide +kernel
theorem dX3_leaveKeyTo_42 : decode cX3_leaveKeyTo 42 = .ok (.ixor, 1) := by decide +kernel
theorem dX3_leaveKeyTo_43 : decode cX3_leaveKeyTo 43 = .ok (.iand, 1) := by decide +kernel
theorem dX3_leaveKeyTo_44 : decode cX3_leaveKeyTo 44 = .ok (.iastore, 1) := by decide +kernel
theorem dX3_leaveKeyTo_45 : decode cX3_leaveKeyTo 45 = .ok (.iinc 3 1, 3) := by decide +kernel
theorem dX3_leaveKeyTo_48 : decode cX3_leaveKeyTo 48 = .ok (.goto (-46), 3) := by decide +kernel
theorem dX3_leaveKeyTo_51 : decode cX3_leaveKeyTo 51 = .ok (.return_, 1) := by decide +kernel
theorem dX3_coveredBy_0 : decode cX3_coveredBy 0 = .ok (.iconst 0, 1) := by decide +kernel
theorem dX3_coveredBy_1 : decode cX3_coveredBy 1 = .ok (.istore_n 2, 1) := by decide +kernel
theorem dX3_coveredBy_2 : decode cX3_coveredBy 2 = .ok (.iconst 0, 1) := by decide +kernel
theorem dX3_coveredBy_3 : decode cX3_coveredBy 3 = .ok (.istore_n 3, 1) := by decide +kernel
theorem dX3_coveredBy_4 : decode cX3_coveredBy 4 = .ok (.iload_n 3, 1) := by decide +kernel
theorem dX3_coveredBy_5 : decode cX3_coveredBy 5 = .ok (.aload_n 0, 1) := by decide +kernel
theorem dX3_coveredBy_6 : decode cX3_coveredBy 6 = .ok (.getfield 69, 3) := by decide +kernel
theorem dX3_coveredBy_9 : decode cX3_coveredBy 9 = .ok (.getfield 39, 3) := by decide +kernel
theorem dX3_coveredBy_12 : decode cX3_coveredBy 12 = .ok (.if_icmp .ge 31, 3) := by decide +kernel
theorem dX3_coveredBy_15 : decode cX3_coveredBy 15 = .ok (.iload_n 2, 1) := by decide +kernel
theorem dX3_coveredBy_16 : decode cX3_coveredBy 16 = .ok (.iload_n 1, 1) := by decide +kernel
theorem dX3_coveredBy_17 : decode cX3_coveredBy 17 = .ok (.iload_n 3, 1) := by decide +kernel
theorem dX3_coveredBy_18 : decode cX3_coveredBy 18 = .ok (.ishr, 1) := by decide +kernel
theorem dX3_coveredBy_19 : decode cX3_coveredBy 19 = .ok (.iconst 1, 1) := by decide +kernel
theorem dX3_coveredBy_20 : decode cX3_coveredBy 20 = .ok (.iand, 1) := by decide +kernel
theorem dX3_coveredBy_21 : decode cX3_coveredBy 21 = .ok (.iconst 1, 1) := by decide +kernel
theorem dX3_coveredBy_22 : decode cX3_coveredBy 22 = .ok (.if_icmp .ne 12, 3) := by decide +kernel
theorem dX3_coveredBy_25 : decode cX3_coveredBy 25 = .ok (.aload_n 0, 1) := by decide +kernel
theorem dX3_coveredBy_26 : decode cX3_coveredBy 26 = .ok (.getfield 9, 3) := by decide +kernel
theorem dX3_coveredBy_29 : decode cX3_coveredBy 29 = .ok (.iload_n 3, 1) := by decide +kernel
theorem dX3_coveredBy_30 : decode cX3_coveredBy 30 = .ok (.iaload, 1) := by decide +kernel
theorem dX3_coveredBy_31 : decode cX3_coveredBy 31 = .ok (.goto 4, 3) := by decide +kernel
theorem dX3_coveredBy_34 : decode cX3_coveredBy 34 = .ok (.iconst 0, 1) := by decide +kernel
theorem dX3_coveredBy_35 : decode cX3_coveredBy 35 = .ok (.ior, 1) := by decide +kernel
theorem dX3_coveredBy_36 : decode cX3_coveredBy 36 = .ok (.istore_n 2, 1) := by decide +kernel
theorem dX3_coveredBy_37 : decode cX3_coveredBy 37 = .ok (.iinc 3 1, 3) := by decide +kernel
theorem dX3_coveredBy_40 : decode cX3_coveredBy 40 = .ok (.goto (-36), 3) := by decide +kernel
theorem dX3_coveredBy_43 : decode cX3_coveredBy 43 = .ok (.aload_n 0, 1) := by decide +kernel
theorem dX3_coveredBy_44 : decode cX3_coveredBy 44 = .ok (.getfield 77, 3) := by decide +kernel
theorem dX3_coveredBy_47 : decode cX3_coveredBy 47 = .ok (.iload_n 2, 1) := by decide +kernel
theorem dX3_coveredBy_48 : decode cX3_coveredBy 48 = .ok (.iconst (-1), 1) := by decide +kernel
theorem dX3_coveredBy_49 : decode cX3_coveredBy 49 = .ok (.ixor, 1) := by decide +kernel
theorem dX3_coveredBy_50 : decode cX3_coveredBy 50 = .ok (.iand, 1) := by decide +kernel
theorem dX3_coveredBy_51 : decode cX3_coveredBy 51 = .ok (.ifCond .ne 19, 3) := by decide +kernel
theorem dX3_coveredBy_54 : decode cX3_coveredBy 54 = .ok (.aload_n 0, 1) := by decide +kernel
theorem dX3_coveredBy_55 : decode cX3_coveredBy 55 = .ok (.aload_n 0, 1) := by decide +kernel
theorem dX3_coveredBy_56 : decode cX3_coveredBy 56 = .ok (.getfield 77, 3) := by decide +kernel
theorem dX3_coveredBy_59 : decode cX3_coveredBy 59 = .ok (.iload_n 1, 1) := by decide +kernel
theorem dX3_coveredBy_60 : decode cX3_coveredBy 60 = .ok (.invokevirtual 123, 3) := by decide +kernel
theorem dX3_coveredBy_63 : decode cX3_coveredBy 63 = .ok (.ifCond .eq 7, 3) := by decide +kernel
theorem dX3_coveredBy_66 : decode cX3_coveredBy 66 = .ok (.iconst 1, 1) := by decide +kernel
theorem dX3_coveredBy_67 : decode cX3_coveredBy 67 = .ok (.goto 4, 3) := by decide +kernel
theorem dX3_coveredBy_70 : decode cX3_coveredBy 70 = .ok (.iconst 0, 1) := by decide +kernel
theorem dX3_coveredBy_71 : decode cX3_coveredBy 71 = .ok (.ireturn, 1) := by decide +kernel
theorem dX3_covered_0 : decode cX3_covered 0 = .ok (.iload_n 1, 1) := by decide +kernel
theorem dX3_covered_1 : decode cX3_covered 1 = .ok (.ifCond .ne 5, 3) := by decide +kernel
theorem dX3_covered_4 : decode cX3_covered 4 = .ok (.iconst 1, 1) := by decide +kernel
theorem dX3_covered_5 : decode cX3_covered 5 = .ok (.ireturn, 1) := by decide +kernel
theorem dX3_covered_6 : decode cX3_covered 6 = .ok (.iload_n 1, 1) := by decide +kernel
theorem dX3_covered_7 : decode cX3_covered 7 = .ok (.invokestatic 127, 3) := by decide +kernel
theorem dX3_covered_10 : decode cX3_covered 10 = .ok (.istore_n 3, 1) := by decide +kernel
theorem dX3_covered_11 : decode cX3_covered 11 = .ok (.iconst 0, 1) := by decide +kernel
theorem dX3_covered_12 : decode cX3_covered 12 = .ok (.istore 4, 2) := by decide +kernel
theorem dX3_covered_14 : decode cX3_covered 14 = .ok (.iload 4, 2) := by decide +kernel
theorem dX3_covered_16 : decode cX3_covered 16 = .ok (.aload_n 0, 1) := by decide +kernel
theorem dX3_covered_17 : decode cX3_covered 17 = .ok (.getfield 69, 3) := by decide +kernel
theorem dX3_covered_20 : decode cX3_covered 20 = .ok (.getfield 39, 3) := by decide +kernel
theorem dX3_covered_23 : decode cX3_covered 23 = .ok (.if_icmp .ge 84, 3) := by decide +kernel
theorem dX3_covered_26 : decode cX3_covered 26 = .ok (.iload_n 2, 1) := by decide +kernel
theorem dX3_covered_27 : decode cX3_covered 27 = .ok (.iload 4, 2) := by decide +kernel
theorem dX3_covered_29 : decode cX3_covered 29 = .ok (.ishr, 1) := by decide +kernel
theorem dX3_covered_30 : decode cX3_covered 30 = .ok (.iconst 1, 1) := by decide +kernel
theorem dX3_covered_31 : decode cX3_covered 31 = .ok (.iand, 1) := by decide +kernel
theorem dX3_covered_32 : decode cX3_covered 32 = .ok (.iconst 1, 1) := by decide +kernel
theorem dX3_covered_33 : decode cX3_covered 33 = .ok (.if_icmp .ne 68, 3) := by decide +kernel
theorem dX3_covered_36 : decode cX3_covered 36 = .ok (.aload_n 0, 1) := by decide +kernel
theorem dX3_covered_37 : decode cX3_covered 37 = .ok (.getfield 9, 3) := by decide +kernel
theorem dX3_covered_40 : decode cX3_covered 40 = .ok (.iload 4, 2) := by decide +kernel
theorem dX3_covered_42 : decode cX3_covered 42 = .ok (.iaload, 1) := by decide +kernel
theorem dX3_covered_43 : decode cX3_covered 43 = .ok (.iload_n 3, 1) := by decide +kernel
theorem dX3_covered_44 : decode cX3_covered 44 = .ok (.ishr, 1) := by decide +kernel
theorem dX3_covered_45 : decode cX3_covered 45 = .ok (.iconst 1, 1) := by decide +kernel
theorem dX3_covered_46 : decode cX3_covered 46 = .ok (.iand, 1) := by decide +kernel
theorem dX3_covered_47 : decode cX3_covered 47 = .ok (.iconst 1, 1) := by decide +kernel
theorem dX3_covered_48 : decode cX3_covered 48 = .ok (.if_icmp .ne 53, 3) := by decide +kernel
theorem dX3_covered_51 : decode cX3_covered 51 = .ok (.aload_n 0, 1) := by decide +kernel
theorem dX3_covered_52 : decode cX3_covered 52 = .ok (.getfield 9, 3) := by decide +kernel
theorem dX3_covered_55 : decode cX3_covered 55 = .ok (.iload 4, 2) := by decide +kernel
theorem dX3_covered_57 : decode cX3_covered 57 = .ok (.iaload, 1) := by decide +kernel
theorem dX3_covered_58 : decode cX3_covered 58 = .ok (.iload_n 1, 1) := by decide +kernel
theorem dX3_covered_59 : decode cX3_covered 59 = .ok (.iand, 1) := by decide +kernel
theorem dX3_covered_60 : decode cX3_covered 60 = .ok (.iconst 2, 1) := by decide +kernel
theorem dX3_covered_61 : decode cX3_covered 61 = .ok (.iload_n 3, 1) := by decide +kernel
theorem dX3_covered_62 : decode cX3_covered 62 = .ok (.aload_n 0, 1) := by decide +kernel
theorem dX3_covered_63 : decode cX3_covered 63 = .ok (.getfield 69, 3) := by decide +kernel
theorem dX3_covered_66 : decode cX3_covered 66 = .ok (.getfield 130, 3) := by decide +kernel
theorem dX3_covered_69 : decode cX3_covered 69 = .ok (.iload 4, 2) := by decide +kernel
theorem dX3_covered_71 : decode cX3_covered 71 = .ok (.iaload, 1) := by decide +kernel
theorem dX3_covered_72 : decode cX3_covered 72 = .ok (.iadd, 1) := by decide +kernel
theorem dX3_covered_73 : decode cX3_covered 73 = .ok (.ishl, 1) := by decide +kernel
theorem dX3_covered_74 : decode cX3_covered 74 = .ok (.iconst 1, 1) := by decide +kernel
theorem dX3_covered_75 : decode cX3_covered 75 = .ok (.isub, 1) := by decide +kernel
theorem dX3_covered_76 : decode cX3_covered 76 = .ok (.iand, 1) := by decide +kernel
theorem dX3_covered_77 : decode cX3_covered 77 = .ok (.istore 5, 2) := by decide +kernel
theorem dX3_covered_79 : decode cX3_covered 79 = .ok (.aload_n 0, 1) := by decide +kernel
theorem dX3_covered_80 : decode cX3_covered 80 = .ok (.iload 4, 2) := by decide +kernel
theorem dX3_covered_82 : decode cX3_covered 82 = .ok (.iload 5, 2) := by decide +kernel
theorem dX3_covered_84 : decode cX3_covered 84 = .ok (.iload_n 1, 1) := by decide +kernel
theorem dX3_covered_85 : decode cX3_covered 85 = .ok (.iload_n 2, 1) := by decide +kernel
theorem dX3_covered_86 : decode cX3_covered 86 = .ok (.iconst 1, 1) := by decide +kernel
theorem dX3_covered_87 : decode cX3_covered 87 = .ok (.iload 4, 2) := by decide +kernel
theorem dX3_covered_89 : decode cX3_covered 89 = .ok (.ishl, 1) := by decide +kernel
theorem dX3_covered_90 : decode cX3_covered 90 = .ok (.iconst (-1), 1) := by decide +kernel
theorem dX3_covered_91 : decode cX3_covered 91 = .ok (.ixor, 1) := by decide +kernel
theorem dX3_covered_92 : decode cX3_covered 92 = .ok (.iand, 1) := by decide +kernel
theorem dX3_covered_93 : decode cX3_covered 93 = .ok (.invokevirtual 133, 3) := by decide +kernel
theorem dX3_covered_96 : decode cX3_covered 96 = .ok (.ifCond .eq 5, 3) := by decide +kernel
theorem dX3_covered_99 : decode cX3_covered 99 = .ok (.iconst 1, 1) := by decide +kernel
theorem dX3_covered_100 : decode cX3_covered 100 = .ok (.ireturn, 1) := by decide +kernel
theorem dX3_covered_101 : decode cX3_covered 101 = .ok (.iinc 4 1, 3) := by decide +kernel
theorem dX3_covered_104 : decode cX3_covered 104 = .ok (.goto (-90), 3) := by decide +kernel
theorem dX3_covered_107 : decode cX3_covered 107 = .ok (.iconst 0, 1) := by decide +kernel
theorem dX3_covered_108 : decode cX3_covered 108 = .ok (.ireturn, 1) := by decide +kernel
theorem dX3_coveredFrom_0 : decode cX3_coveredFrom 0 = .ok (.aload_n 0, 1) := by decide +kernel
theorem dX3_coveredFrom_1 : decode cX3_coveredFrom 1 = .ok (.getfield 69, 3) := by decide +kernel
theorem dX3_coveredFrom_4 : decode cX3_coveredFrom 4 = .ok (.getfield 137, 3) := by decide +kernel
theorem dX3_coveredFrom_7 : decode cX3_coveredFrom 7 = .ok (.iload_n 1, 1) := by decide +kernel
theorem dX3_coveredFrom_8 : decode cX3_coveredFrom 8 = .ok (.iaload, 1) := by decide +kernel
theorem dX3_coveredFrom_9 : decode cX3_coveredFrom 9 = .ok (.istore 5, 2) := by decide +kernel
theorem dX3_coveredFrom_11 : decode cX3_coveredFrom 11 = .ok (.iload_n 2, 1) := by decide +kernel
theorem dX3_coveredFrom_12 : decode cX3_coveredFrom 12 = .ok (.invokestatic 103, 3) := by decide +kernel
theorem dX3_coveredFrom_15 : decode cX3_coveredFrom 15 = .ok (.iload 5, 2) := by decide +kernel
theorem dX3_coveredFrom_17 : decode cX3_coveredFrom 17 = .ok (.if_icmp .gt 15, 3) := by decide +kernel
theorem dX3_coveredFrom_20 : decode cX3_coveredFrom 20 = .ok (.aload_n 0, 1) := by decide +kernel
theorem dX3_coveredFrom_21 : decode cX3_coveredFrom 21 = .ok (.iload_n 3, 1) := by decide +kernel
theorem dX3_coveredFrom_22 : decode cX3_coveredFrom 22 = .ok (.iload_n 2, 1) := by decide +kernel
theorem dX3_coveredFrom_23 : decode cX3_coveredFrom 23 = .ok (.iconst (-1), 1) := by decide +kernel
theorem dX3_coveredFrom_24 : decode cX3_coveredFrom 24 = .ok (.ixor, 1) := by decide +kernel
theorem dX3_coveredFrom_25 : decode cX3_coveredFrom 25 = .ok (.iand, 1) := by decide +kernel
theorem dX3_coveredFrom_26 : decode cX3_coveredFrom 26 = .ok (.iload 4, 2) := by decide +kernel
theorem dX3_coveredFrom_28 : decode cX3_coveredFrom 28 = .ok (.invokevirtual 123, 3) := by decide +kernel
theorem dX3_coveredFrom_31 : decode cX3_coveredFrom 31 = .ok (.ireturn, 1) := by decide +kernel
theorem dX3_coveredFrom_32 : decode cX3_coveredFrom 32 = .ok (.iload_n 2, 1) := by decide +kernel
theorem dX3_coveredFrom_33 : decode cX3_coveredFrom 33 = .ok (.iload_n 2, 1) := by decide +kernel
theorem dX3_coveredFrom_34 : decode cX3_coveredFrom 34 = .ok (.ineg, 1) := by decide +kernel
theorem dX3_coveredFrom_35 : decode cX3_coveredFrom 35 = .ok (.iand, 1) := by decide +kernel
theorem dX3_coveredFrom_36 : decode cX3_coveredFrom 36 = .ok (.istore 6, 2) := by decide +kernel
theorem dX3_coveredFrom_38 : decode cX3_coveredFrom 38 = .ok (.iload_n 2, 1) := by decide +kernel
theorem dX3_coveredFrom_39 : decode cX3_coveredFrom 39 = .ok (.istore 7, 2) := by decide +kernel
theorem dX3_coveredFrom_41 : decode cX3_coveredFrom 41 = .ok (.iload 7, 2) := by decide +kernel
theorem dX3_coveredFrom_43 : decode cX3_coveredFrom 43 = .ok (.ifCond .le 49, 3) := by decide +kernel
theorem dX3_coveredFrom_46 : decode cX3_coveredFrom 46 = .ok (.iload 7, 2) := by decide +kernel
theorem dX3_coveredFrom_48 : decode cX3_coveredFrom 48 = .ok (.iload 6, 2) := by decide +kernel
theorem dX3_coveredFrom_50 : decode cX3_coveredFrom 50 = .ok (.iand, 1) := by decide +kernel
theorem dX3_coveredFrom_51 : decode cX3_coveredFrom 51 = .ok (.ifCond .eq 30, 3) := by decide +kernel
theorem dX3_coveredFrom_54 : decode cX3_coveredFrom 54 = .ok (.iload 7, 2) := by decide +kernel
theorem dX3_coveredFrom_56 : decode cX3_coveredFrom 56 = .ok (.invokestatic 103, 3) := by decide +kernel
theorem dX3_coveredFrom_59 : decode cX3_coveredFrom 59 = .ok (.iload 5, 2) := by decide +kernel
theorem dX3_coveredFrom_61 : decode cX3_coveredFrom 61 = .ok (.if_icmp .ne 20, 3) := by decide +kernel
theorem dX3_coveredFrom_64 : decode cX3_coveredFrom 64 = .ok (.aload_n 0, 1) := by decide +kernel
theorem dX3_coveredFrom_65 : decode cX3_coveredFrom 65 = .ok (.iload_n 3, 1) := by decide +kernel
theorem dX3_coveredFrom_66 : decode cX3_coveredFrom 66 = .ok (.iload 7, 2) := by decide +kernel
theorem dX3_coveredFrom_68 : decode cX3_coveredFrom 68 = .ok (.iconst (-1), 1) := by decide +kernel
theorem dX3_coveredFrom_69 : decode cX3_coveredFrom 69 = .ok (.ixor, 1) := by decide +kernel
theorem dX3_coveredFrom_70 : decode cX3_coveredFrom 70 = .ok (.iand, 1) := by decide +kernel
theorem dX3_coveredFrom_71 : decode cX3_coveredFrom 71 = .ok (.iload 4, 2) := by decide +kernel
theorem dX3_coveredFrom_73 : decode cX3_coveredFrom 73 = .ok (.invokevirtual 123, 3) := by decide +kernel
theorem dX3_coveredFrom_76 : decode cX3_coveredFrom 76 = .ok (.ifCond .eq 5, 3) := by decide +kernel
theorem dX3_coveredFrom_79 : decode cX3_coveredFrom 79 = .ok (.iconst 1, 1) := by decide +kernel
theorem dX3_coveredFrom_80 : decode cX3_coveredFrom 80 = .ok (.ireturn, 1) := by decide +kernel
theorem dX3_coveredFrom_81 : decode cX3_coveredFrom 81 = .ok (.iload 7, 2) := by decide +kernel
theorem dX3_coveredFrom_83 : decode cX3_coveredFrom 83 = .ok (.iconst 1, 1) := by decide +kernel
theorem dX3_coveredFrom_84 : decode cX3_coveredFrom 84 = .ok (.isub, 1) := by decide +kernel
theorem dX3_coveredFrom_85 : decode cX3_coveredFrom 85 = .ok (.iload_n 2, 1) := by decide +kernel
theorem dX3_coveredFrom_86 : decode cX3_coveredFrom 86 = .ok (.iand, 1) := by decide +kernel
theorem dX3_coveredFrom_87 : decode cX3_coveredFrom 87 = .ok (.istore 7, 2) := by decide +kernel
theorem dX3_coveredFrom_89 : decode cX3_coveredFrom 89 = .ok (.goto (-48), 3) := by decide +kernel
theorem dX3_coveredFrom_92 : decode cX3_coveredFrom 92 = .ok (.iconst 0, 1) := by decide +kernel
theorem dX3_coveredFrom_93 : decode cX3_coveredFrom 93 = .ok (.ireturn, 1) := by decide +kernel
theorem dX3_weighParts_0 : decode cX3_weighParts 0 = .ok (.aload_n 0, 1) := by decide +kernel
theorem dX3_weighParts_1 : decode cX3_weighParts 1 = .ok (.getfield 9, 3) := by decide +kernel
theorem dX3_weighParts_4 : decode cX3_weighParts 4 = .ok (.iload_n 1, 1) := by decide +kernel
theorem dX3_weighParts_5 : decode cX3_weighParts 5 = .ok (.iaload, 1) := by decide +kernel
theorem dX3_weighParts_6 : decode cX3_weighParts 6 = .ok (.istore_n 2, 1) := by decide +kernel
theorem dX3_weighParts_7 : decode cX3_weighParts 7 = .ok (.aload_n 0, 1) := by decide +kernel
theorem dX3_weighParts_8 : decode cX3_weighParts 8 = .ok (.getfield 22, 3) := by decide +kernel
theorem dX3_weighParts_11 : decode cX3_weighParts 11 = .ok (.iconst 0, 1) := by decide +kernel
theorem dX3_weighParts_12 : decode cX3_weighParts 12 = .ok (.lconst 0, 1) := by decide +kernel
theorem dX3_weighParts_13 : decode cX3_weighParts 13 = .ok (.lastore, 1) := by decide +kernel
theorem dX3_weighParts_14 : decode cX3_weighParts 14 = .ok (.iconst 0, 1) := by decide +kernel
theorem dX3_weighParts_15 : decode cX3_weighParts 15 = .ok (.istore_n 3, 1) := by decide +kernel
theorem dX3_weighParts_16 : decode cX3_weighParts 16 = .ok (.iconst 0, 1) := by decide +kernel
theorem dX3_weighParts_17 : decode cX3_weighParts 17 = .ok (.istore 4, 2) := by decide +kernel
theorem dX3_weighParts_19 : decode cX3_weighParts 19 = .ok (.iload 4, 2) := by decide +kernel
theorem dX3_weighParts_21 : decode cX3_weighParts 21 = .ok (.sipush 255, 3) := by decide +kernel
theorem dX3_weighParts_24 : decode cX3_weighParts 24 = .ok (.if_icmp .ge 107, 3) := by decide +kernel
theorem dX3_weighParts_27 : decode cX3_weighParts 27 = .ok (.iload_n 3, 1) := by decide +kernel
theorem dX3_weighParts_28 : decode cX3_weighParts 28 = .ok (.iload_n 2, 1) := by decide +kernel
theorem dX3_weighParts_29 : decode cX3_weighParts 29 = .ok (.if_icmp .eq 102, 3) := by decide +kernel
theorem dX3_weighParts_32 : decode cX3_weighParts 32 = .ok (.iload_n 3, 1) := by decide +kernel
theorem dX3_weighParts_33 : decode cX3_weighParts 33 = .ok (.iload_n 2, 1) := by decide +kernel
theorem dX3_weighParts_34 : decode cX3_weighParts 34 = .ok (.isub, 1) := by decide +kernel
theorem dX3_weighParts_35 : decode cX3_weighParts 35 = .ok (.iload_n 2, 1) := by decide +kernel
theorem dX3_weighParts_36 : decode cX3_weighParts 36 = .ok (.iand, 1) := by decide +kernel
theorem dX3_weighParts_37 : decode cX3_weighParts 37 = .ok (.istore_n 3, 1) := by decide +kernel
theorem dX3_weighParts_38 : decode cX3_weighParts 38 = .ok (.iload_n 3, 1) := by decide +kernel
theorem dX3_weighParts_39 : decode cX3_weighParts 39 = .ok (.invokestatic 127, 3) := by decide +kernel
theorem dX3_weighParts_42 : decode cX3_weighParts 42 = .ok (.istore 5, 2) := by decide +kernel
theorem dX3_weighParts_44 : decode cX3_weighParts 44 = .ok (.iload_n 3, 1) := by decide +kernel
theorem dX3_weighParts_45 : decode cX3_weighParts 45 = .ok (.invokestatic 103, 3) := by decide +kernel
theorem dX3_weighParts_48 : decode cX3_weighParts 48 = .ok (.aload_n 0, 1) := by decide +kernel
theorem dX3_weighParts_49 : decode cX3_weighParts 49 = .ok (.getfield 69, 3) := by decide +kernel
theorem dX3_weighParts_52 : decode cX3_weighParts 52 = .ok (.getfield 137, 3) := by decide +kernel
theorem dX3_weighParts_55 : decode cX3_weighParts 55 = .ok (.iload_n 1, 1) := by decide +kernel
theorem dX3_weighParts_56 : decode cX3_weighParts 56 = .ok (.iaload, 1) := by decide +kernel
theorem dX3_weighParts_57 : decode cX3_weighParts 57 = .ok (.if_icmp .gt 25, 3) := by decide +kernel
theorem dX3_weighParts_60 : decode cX3_weighParts 60 = .ok (.iload_n 3, 1) := by decide +kernel
theorem dX3_weighParts_61 : decode cX3_weighParts 61 = .ok (.iload 5, 2) := by decide +kernel
theorem dX3_weighParts_63 : decode cX3_weighParts 63 = .ok (.ishr, 1) := by decide +kernel
theorem dX3_weighParts_64 : decode cX3_weighParts 64 = .ok (.iconst 2, 1) := by decide +kernel
theorem dX3_weighParts_65 : decode cX3_weighParts 65 = .ok (.aload_n 0, 1) := by decide +kernel
theorem dX3_weighParts_66 : decode cX3_weighParts 66 = .ok (.getfield 69, 3) := by decide +kernel
theorem dX3_weighParts_69 : decode cX3_weighParts 69 = .ok (.getfield 130, 3) := by decide +kernel
theorem dX3_weighParts_72 : decode cX3_weighParts 72 = .ok (.iload_n 1, 1) := by decide +kernel
theorem dX3_weighParts_73 : decode cX3_weighParts 73 = .ok (.iaload, 1) := by decide +kernel
theorem dX3_weighParts_74 : decode cX3_weighParts 74 = .ok (.ishl, 1) := by decide +kernel
theorem dX3_weighParts_75 : decode cX3_weighParts 75 = .ok (.if_icmp .ge 7, 3) := by decide +kernel
theorem dX3_weighParts_78 : decode cX3_weighParts 78 = .ok (.iconst 1, 1) := by decide +kernel
theorem dX3_weighParts_79 : decode cX3_weighParts 79 = .ok (.goto 4, 3) := by decide +kernel
theorem dX3_weighParts_82 : decode cX3_weighParts 82 = .ok (.iconst 0, 1) := by decide +kernel
theorem dX3_weighParts_83 : decode cX3_weighParts 83 = .ok (.istore 6, 2) := by decide +kernel
theorem dX3_weighParts_85 : decode cX3_weighParts 85 = .ok (.aload_n 0, 1) := by decide +kernel
theorem dX3_weighParts_86 : decode cX3_weighParts 86 = .ok (.getfield 22, 3) := by decide +kernel
theorem dX3_weighParts_89 : decode cX3_weighParts 89 = .ok (.iload_n 3, 1) := by decide +kernel
theorem dX3_weighParts_90 : decode cX3_weighParts 90 = .ok (.iload 6, 2) := by decide +kernel
theorem dX3_weighParts_92 : decode cX3_weighParts 92 = .ok (.ifCond .eq 29, 3) := by decide +kernel
theorem dX3_weighParts_95 : decode cX3_weighParts 95 = .ok (.aload_n 0, 1) := by decide +kernel
theorem dX3_weighParts_96 : decode cX3_weighParts 96 = .ok (.getfield 22, 3) := by decide +kernel
theorem dX3_weighParts_99 : decode cX3_weighParts 99 = .ok (.iload_n 3, 1) := by decide +kernel
theorem dX3_weighParts_100 : decode cX3_weighParts 100 = .ok (.iload_n 3, 1) := by decide +kernel
theorem dX3_weighParts_101 : decode cX3_weighParts 101 = .ok (.iconst 1, 1) := by decide +kernel
theorem dX3_weighParts_102 : decode cX3_weighParts 102 = .ok (.isub, 1) := by decide +kernel
theorem dX3_weighParts_103 : decode cX3_weighParts 103 = .ok (.iand, 1) := by decide +kernel
theorem dX3_weighParts_104 : decode cX3_weighParts 104 = .ok (.laload, 1) := by decide +kernel
theorem dX3_weighParts_105 : decode cX3_weighParts 105 = .ok (.aload_n 0, 1) := by decide +kernel
theorem dX3_weighParts_106 : decode cX3_weighParts 106 = .ok (.getfield 18, 3) := by decide +kernel
theorem dX3_weighParts_109 : decode cX3_weighParts 109 = .ok (.iload_n 1, 1) := by decide +kernel
theorem dX3_weighParts_110 : decode cX3_weighParts 110 = .ok (.bipush 8, 2) := by decide +kernel
theorem dX3_weighParts_112 : decode cX3_weighParts 112 = .ok (.imul, 1) := by decide +kernel
theorem dX3_weighParts_113 : decode cX3_weighParts 113 = .ok (.iload 5, 2) := by decide +kernel
theorem dX3_weighParts_115 : decode cX3_weighParts 115 = .ok (.iadd, 1) := by decide +kernel
theorem dX3_weighParts_116 : decode cX3_weighParts 116 = .ok (.laload, 1) := by decide +kernel
theorem dX3_weighParts_117 : decode cX3_weighParts 117 = .ok (.ladd, 1) := by decide +kernel
theorem dX3_weighParts_118 : decode cX3_weighParts 118 = .ok (.goto 6, 3) := by decide +kernel
theorem dX3_weighParts_121 : decode cX3_weighParts 121 = .ok (.ldc2_w 61, 3) := by decide +kernel
theorem dX3_weighParts_124 : decode cX3_weighParts 124 = .ok (.lastore, 1) := by decide +kernel
theorem dX3_weighParts_125 : decode cX3_weighParts 125 = .ok (.iinc 4 1, 3) := by decide +kernel
theorem dX3_weighParts_128 : decode cX3_weighParts 128 = .ok (.goto (-109), 3) := by decide +kernel
theorem dX3_weighParts_131 : decode cX3_weighParts 131 = .ok (.return_, 1) := by decide +kernel
theorem dX3_rowPlace_0 : decode cX3_rowPlace 0 = .ok (.iconst 3, 1) := by decide +kernel
theorem dX3_rowPlace_1 : decode cX3_rowPlace 1 = .ok (.bipush 7, 2) := by decide +kernel
theorem dX3_rowPlace_3 : decode cX3_rowPlace 3 = .ok (.iload_n 0, 1) := by decide +kernel
theorem dX3_rowPlace_4 : decode cX3_rowPlace 4 = .ok (.isub, 1) := by decide +kernel
theorem dX3_rowPlace_5 : decode cX3_rowPlace 5 = .ok (.imul, 1) := by decide +kernel
theorem dX3_rowPlace_6 : decode cX3_rowPlace 6 = .ok (.ireturn, 1) := by decide +kernel
theorem dX3_lowestKey_0 : decode cX3_lowestKey 0 = .ok (.iconst 0, 1) := by decide +kernel
theorem dX3_lowestKey_1 : decode cX3_lowestKey 1 = .ok (.istore_n 1, 1) := by decide +kernel
theorem dX3_lowestKey_2 : decode cX3_lowestKey 2 = .ok (.iload_n 1, 1) := by decide +kernel
theorem dX3_lowestKey_3 : decode cX3_lowestKey 3 = .ok (.bipush 7, 2) := by decide +kernel
theorem dX3_lowestKey_5 : decode cX3_lowestKey 5 = .ok (.if_icmp .ge 20, 3) := by decide +kernel
theorem dX3_lowestKey_8 : decode cX3_lowestKey 8 = .ok (.iload_n 0, 1) := by decide +kernel
theorem dX3_lowestKey_9 : decode cX3_lowestKey 9 = .ok (.iload_n 1, 1) := by decide +kernel
theorem dX3_lowestKey_10 : decode cX3_lowestKey 10 = .ok (.ishr, 1) := by decide +kernel
theorem dX3_lowestKey_11 : decode cX3_lowestKey 11 = .ok (.iconst 1, 1) := by decide +kernel
theorem dX3_lowestKey_12 : decode cX3_lowestKey 12 = .ok (.iand, 1) := by decide +kernel
theorem dX3_lowestKey_13 : decode cX3_lowestKey 13 = .ok (.iconst 1, 1) := by decide +kernel
theorem dX3_lowestKey_14 : decode cX3_lowestKey 14 = .ok (.if_icmp .ne 5, 3) := by decide +kernel
theorem dX3_lowestKey_17 : decode cX3_lowestKey 17 = .ok (.iload_n 1, 1) := by decide +kernel
theorem dX3_lowestKey_18 : decode cX3_lowestKey 18 = .ok (.ireturn, 1) := by decide +kernel
theorem dX3_lowestKey_19 : decode cX3_lowestKey 19 = .ok (.iinc 1 1, 3) := by decide +kernel
theorem dX3_lowestKey_22 : decode cX3_lowestKey 22 = .ok (.goto (-20), 3) := by decide +kernel
theorem dX3_lowestKey_25 : decode cX3_lowestKey 25 = .ok (.bipush 7, 2) := by decide +kernel
theorem dX3_lowestKey_27 : decode cX3_lowestKey 27 = .ok (.ireturn, 1) := by decide +kernel
theorem dX1_tally_0 : decode cX1_tally 0 = .ok (.aload_n 0, 1) := by decide +kernel
theorem dX1_tally_1 : decode cX1_tally 1 = .ok (.getfield 9, 3) := by decide +kernel
theorem dX1_tally_4 : decode cX1_tally 4 = .ok (.iconst 0, 1) := by decide +kernel
theorem dX1_tally_5 : decode cX1_tally 5 = .ok (.invokestatic 18, 3) := by decide +kernel
theorem dX1_tally_8 : decode cX1_tally 8 = .ok (.iconst 0, 1) := by decide +kernel
theorem dX1_tally_9 : decode cX1_tally 9 = .ok (.istore_n 3, 1) := by decide +kernel
theorem dX1_tally_10 : decode cX1_tally 10 = .ok (.iload_n 3, 1) := by decide +kernel
theorem dX1_tally_11 : decode cX1_tally 11 = .ok (.bipush 16, 2) := by decide +kernel
theorem dX1_tally_13 : decode cX1_tally 13 = .ok (.if_icmp .ge 99, 3) := by decide +kernel
theorem dX1_tally_16 : decode cX1_tally 16 = .ok (.aload_n 2, 1) := by decide +kernel
theorem dX1_tally_17 : decode cX1_tally 17 = .ok (.aload_n 1, 1) := by decide +kernel
theorem dX1_tally_18 : decode cX1_tally 18 = .ok (.iload_n 3, 1) := by decide +kernel
theorem dX1_tally_19 : decode cX1_tally 19 = .ok (.invokevirtual 24, 3) := by decide +kernel
theorem dX1_tally_22 : decode cX1_tally 22 = .ok (.ldc2_w 30, 3) := by decide +kernel
theorem dX1_tally_25 : decode cX1_tally 25 = .ok (.lcmp, 1) := by decide +kernel
theorem dX1_tally_26 : decode cX1_tally 26 = .ok (.ifCond .lt 5, 3) := by decide +kernel
theorem dX1_tally_29 : decode cX1_tally 29 = .ok (.iconst 0, 1) := by decide +kernel
theorem dX1_tally_30 : decode cX1_tally 30 = .ok (.ireturn, 1) := by decide +kernel
theorem dX1_tally_31 : decode cX1_tally 31 = .ok (.iconst 0, 1) := by decide +kernel
theorem dX1_tally_32 : decode cX1_tally 32 = .ok (.istore 4, 2) := by decide +kernel
theorem dX1_tally_34 : decode cX1_tally 34 = .ok (.iload 4, 2) := by decide +kernel
theorem dX1_tally_36 : decode cX1_tally 36 = .ok (.bipush 8, 2) := by decide +kernel
theorem dX1_tally_38 : decode cX1_tally 38 = .ok (.if_icmp .ge 68, 3) := by decide +kernel
theorem dX1_tally_41 : decode cX1_tally 41 = .ok (.aload_n 2, 1) := by decide +kernel
theorem dX1_tally_42 : decode cX1_tally 42 = .ok (.iload 4, 2) := by decide +kernel
theorem dX1_tally_44 : decode cX1_tally 44 = .ok (.invokevirtual 32, 3) := by decide +kernel
theorem dX1_tally_47 : decode cX1_tally 47 = .ok (.istore 5, 2) := by decide +kernel
theorem dX1_tally_49 : decode cX1_tally 49 = .ok (.aload_n 1, 1) := by decide +kernel
theorem dX1_tally_50 : decode cX1_tally 50 = .ok (.getfield 36, 3) := by decide +kernel
theorem dX1_tally_53 : decode cX1_tally 53 = .ok (.iload 4, 2) := by decide +kernel
theorem dX1_tally_55 : decode cX1_tally 55 = .ok (.iaload, 1) := by decide +kernel
theorem dX1_tally_56 : decode cX1_tally 56 = .ok (.istore 6, 2) := by decide +kernel
theorem dX1_tally_58 : decode cX1_tally 58 = .ok (.aload_n 1, 1) := by decide +kernel
theorem dX1_tally_59 : decode cX1_tally 59 = .ok (.iload 5, 2) := by decide +kernel
theorem dX1_tally_61 : decode cX1_tally 61 = .ok (.invokevirtual 41, 3) := by decide +kernel
theorem dX1_tally_64 : decode cX1_tally 64 = .ok (.ifCond .eq 36, 3) := by decide +kernel
theorem dX1_tally_67 : decode cX1_tally 67 = .ok (.aload_n 1, 1) := by decide +kernel
theorem dX1_tally_68 : decode cX1_tally 68 = .ok (.iload 6, 2) := by decide +kernel
theorem dX1_tally_70 : decode cX1_tally 70 = .ok (.invokevirtual 41, 3) := by decide +kernel
theorem dX1_tally_73 : decode cX1_tally 73 = .ok (.ifCond .eq 27, 3) := by decide +kernel
theorem dX1_tally_76 : decode cX1_tally 76 = .ok (.iload 6, 2) := by decide +kernel
theorem dX1_tally_78 : decode cX1_tally 78 = .ok (.iload 5, 2) := by decide +kernel
theorem dX1_tally_80 : decode cX1_tally 80 = .ok (.if_icmp .eq 20, 3) := by decide +kernel
theorem dX1_tally_83 : decode cX1_tally 83 = .ok (.aload_n 0, 1) := by decide +kernel
theorem dX1_tally_84 : decode cX1_tally 84 = .ok (.getfield 9, 3) := by decide +kernel
theorem dX1_tally_87 : decode cX1_tally 87 = .ok (.iload 5, 2) := by decide +kernel
theorem dX1_tally_89 : decode cX1_tally 89 = .ok (.bipush 6, 2) := by decide +kernel
theorem dX1_tally_91 : decode cX1_tally 91 = .ok (.imul, 1) := by decide +kernel
theorem dX1_tally_92 : decode cX1_tally 92 = .ok (.iload 6, 2) := by decide +kernel
theorem dX1_tally_94 : decode cX1_tally 94 = .ok (.iadd, 1) := by decide +kernel
theorem dX1_tally_95 : decode cX1_tally 95 = .ok (.dup2, 1) := by decide +kernel
theorem dX1_tally_96 : decode cX1_tally 96 = .ok (.iaload, 1) := by decide +kernel
theorem dX1_tally_97 : decode cX1_tally 97 = .ok (.iconst 1, 1) := by decide +kernel
theorem dX1_tally_98 : decode cX1_tally 98 = .ok (.iadd, 1) := by decide +kernel
theorem dX1_tally_99 : decode cX1_tally 99 = .ok (.iastore, 1) := by decide +kernel
theorem dX1_tally_100 : decode cX1_tally 100 = .ok (.iinc 4 1, 3) := by decide +kernel
theorem dX1_tally_103 : decode cX1_tally 103 = .ok (.goto (-69), 3) := by decide +kernel
theorem dX1_tally_106 : decode cX1_tally 106 = .ok (.iinc 3 1, 3) := by decide +kernel
theorem dX1_tally_109 : decode cX1_tally 109 = .ok (.goto (-99), 3) := by decide +kernel
theorem dX1_tally_112 : decode cX1_tally 112 = .ok (.iconst 1, 1) := by decide +kernel
theorem dX1_tally_113 : decode cX1_tally 113 = .ok (.ireturn, 1) := by decide +kernel
theorem dX1_payments_0 : decode cX1_payments 0 = .ok (.aload_n 0, 1) := by decide +kernel
theorem dX1_payments_1 : decode cX1_payments 1 = .ok (.getfield 15, 3) := by decide +kernel
theorem dX1_payments_4 : decode cX1_payments 4 = .ok (.iconst 0, 1) := by decide +kernel
theorem dX1_payments_5 : decode cX1_payments 5 = .ok (.iconst 0, 1) := by decide +kernel
theorem dX1_payments_6 : decode cX1_payments 6 = .ok (.iastore, 1) := by decide +kernel
theorem dX1_payments_7 : decode cX1_payments 7 = .ok (.iconst 1, 1) := by decide +kernel
theorem dX1_payments_8 : decode cX1_payments 8 = .ok (.istore_n 2, 1) := by decide +kernel
theorem dX1_payments_9 : decode cX1_payments 9 = .ok (.iload_n 2, 1) := by decide +kernel
theorem dX1_payments_10 : decode cX1_payments 10 = .ok (.iconst 1, 1) := by decide +kernel
theorem dX1_payments_11 : decode cX1_payments 11 = .ok (.iload_n 1, 1) := by decide +kernel
theorem dX1_payments_12 : decode cX1_payments 12 = .ok (.ishl, 1) := by decide +kernel
theorem dX1_payments_13 : decode cX1_payments 13 = .ok (.if_icmp .ge 87, 3) := by decide +kernel
theorem dX1_payments_16 : decode cX1_payments 16 = .ok (.iconst 0, 1) := by decide +kernel
theorem dX1_payments_17 : decode cX1_payments 17 = .ok (.istore_n 3, 1) := by decide +kernel
theorem dX1_payments_18 : decode cX1_payments 18 = .ok (.iconst 0, 1) := by decide +kernel
theorem dX1_payments_19 : decode cX1_payments 19 = .ok (.istore 4, 2) := by decide +kernel
theorem dX1_payments_21 : decode cX1_payments 21 = .ok (.iconst 0, 1) := by decide +kernel
theorem dX1_payments_22 : decode cX1_payments 22 = .ok (.istore 5, 2) := by decide +kernel
theorem dX1_payments_24 : decode cX1_payments 24 = .ok (.iload 5, 2) := by decide +kernel
theorem dX1_payments_26 : decode cX1_payments 26 = .ok (.iload_n 1, 1) := by decide +kernel
theorem dX1_payments_27 : decode cX1_payments 27 = .ok (.if_icmp .ge 49, 3) := by decide +kernel
theorem dX1_payments_30 : decode cX1_payments 30 = .ok (.iload_n 2, 1) := by decide +kernel
theorem dX1_payments_31 : decode cX1_payments 31 = .ok (.iload 5, 2) := by decide +kernel
theorem dX1_payments_33 : decode cX1_payments 33 = .ok (.ishr, 1) := by decide +kernel
theorem dX1_payments_34 : decode cX1_payments 34 = .ok (.iconst 1, 1) := by decide +kernel
theorem dX1_payments_35 : decode cX1_payments 35 = .ok (.iand, 1) := by decide +kernel
theorem dX1_payments_36 : decode cX1_payments 36 = .ok (.iconst 1, 1) := by decide +kernel
theorem dX1_payments_37 : decode cX1_payments 37 = .ok (.if_icmp .ne 33, 3) := by decide +kernel
theorem dX1_payments_40 : decode cX1_payments 40 = .ok (.iload_n 3, 1) := by decide +kernel
theorem dX1_payments_41 : decode cX1_payments 41 = .ok (.aload_n 0, 1) := by decide +kernel
theorem dX1_payments_42 : decode cX1_payments 42 = .ok (.getfield 15, 3) := by decide +kernel
theorem dX1_payments_45 : decode cX1_payments 45 = .ok (.iload_n 2, 1) := by decide +kernel
theorem dX1_payments_46 : decode cX1_payments 46 = .ok (.iconst 1, 1) := by decide +kernel
theorem dX1_payments_47 : decode cX1_payments 47 = .ok (.iload 5, 2) := by decide +kernel
theorem dX1_payments_49 : decode cX1_payments 49 = .ok (.ishl, 1) := by decide +kernel
theorem dX1_payments_50 : decode cX1_payments 50 = .ok (.iconst (-1), 1) := by decide +kernel
theorem dX1_payments_51 : decode cX1_payments 51 = .ok (.ixor, 1) := by decide +kernel
theorem dX1_payments_52 : decode cX1_payments 52 = .ok (.iand, 1) := by decide +kernel
theorem dX1_payments_53 : decode cX1_payments 53 = .ok (.iaload, 1) := by decide +kernel
theorem dX1_payments_54 : decode cX1_payments 54 = .ok (.invokestatic 45, 3) := by decide +kernel
theorem dX1_payments_57 : decode cX1_payments 57 = .ok (.istore_n 3, 1) := by decide +kernel
theorem dX1_payments_58 : decode cX1_payments 58 = .ok (.iload 4, 2) := by decide +kernel
theorem dX1_payments_60 : decode cX1_payments 60 = .ok (.aload_n 0, 1) := by decide +kernel
theorem dX1_payments_61 : decode cX1_payments 61 = .ok (.iload 5, 2) := by decide +kernel
theorem dX1_payments_63 : decode cX1_payments 63 = .ok (.iload_n 1, 1) := by decide +kernel
theorem dX1_payments_64 : decode cX1_payments 64 = .ok (.invokevirtual 51, 3) := by decide +kernel
theorem dX1_payments_67 : decode cX1_payments 67 = .ok (.iadd, 1) := by decide +kernel
theorem dX1_payments_68 : decode cX1_payments 68 = .ok (.istore 4, 2) := by decide +kernel
theorem dX1_payments_70 : decode cX1_payments 70 = .ok (.iinc 5 1, 3) := by decide +kernel
theorem dX1_payments_73 : decode cX1_payments 73 = .ok (.goto (-49), 3) := by decide +kernel
theorem dX1_payments_76 : decode cX1_payments 76 = .ok (.aload_n 0, 1) := by decide +kernel
theorem dX1_payments_77 : decode cX1_payments 77 = .ok (.getfield 15, 3) := by decide +kernel
theorem dX1_payments_80 : decode cX1_payments 80 = .ok (.iload_n 2, 1) := by decide +kernel
theorem dX1_payments_81 : decode cX1_payments 81 = .ok (.iload 4, 2) := by decide +kernel
theorem dX1_payments_83 : decode cX1_payments 83 = .ok (.ifCond .ne 9, 3) := by decide +kernel
theorem dX1_payments_86 : decode cX1_payments 86 = .ok (.iload_n 3, 1) := by decide +kernel
theorem dX1_payments_87 : decode cX1_payments 87 = .ok (.iconst 1, 1) := by decide +kernel
theorem dX1_payments_88 : decode cX1_payments 88 = .ok (.iadd, 1) := by decide +kernel
theorem dX1_payments_89 : decode cX1_payments 89 = .ok (.goto 4, 3) := by decide +kernel
theorem dX1_payments_92 : decode cX1_payments 92 = .ok (.iload_n 3, 1) := by decide +kernel
theorem dX1_payments_93 : decode cX1_payments 93 = .ok (.iastore, 1) := by decide +kernel
theorem dX1_payments_94 : decode cX1_payments 94 = .ok (.iinc 2 1, 3) := by decide +kernel
theorem dX1_payments_97 : decode cX1_payments 97 = .ok (.goto (-88), 3) := by decide +kernel
theorem dX1_payments_100 : decode cX1_payments 100 = .ok (.iload_n 1, 1) := by decide +kernel
theorem dX1_payments_101 : decode cX1_payments 101 = .ok (.aload_n 0, 1) := by decide +kernel
theorem dX1_payments_102 : decode cX1_payments 102 = .ok (.getfield 15, 3) := by decide +kernel
theorem dX1_payments_105 : decode cX1_payments 105 = .ok (.iconst 1, 1) := by decide +kernel
theorem dX1_payments_106 : decode cX1_payments 106 = .ok (.iload_n 1, 1) := by decide +kernel
theorem dX1_payments_107 : decode cX1_payments 107 = .ok (.ishl, 1) := by decide +kernel
theorem dX1_payments_108 : decode cX1_payments 108 = .ok (.iconst 1, 1) := by decide +kernel
theorem dX1_payments_109 : decode cX1_payments 109 = .ok (.isub, 1) := by decide +kernel
theorem dX1_payments_110 : decode cX1_payments 110 = .ok (.iaload, 1) := by decide +kernel
theorem dX1_payments_111 : decode cX1_payments 111 = .ok (.isub, 1) := by decide +kernel
theorem dX1_payments_112 : decode cX1_payments 112 = .ok (.ireturn, 1) := by decide +kernel
theorem dX1_balanceOf_0 : decode cX1_balanceOf 0 = .ok (.iconst 0, 1) := by decide +kernel
theorem dX1_balanceOf_1 : decode cX1_balanceOf 1 = .ok (.istore_n 3, 1) := by decide +kernel
theorem dX1_balanceOf_2 : decode cX1_balanceOf 2 = .ok (.iconst 0, 1) := by decide +kernel
theorem dX1_balanceOf_3 : decode cX1_balanceOf 3 = .ok (.istore 4, 2) := by decide +kernel
theorem dX1_balanceOf_5 : decode cX1_balanceOf 5 = .ok (.iload 4, 2) := by decide +kernel
theorem dX1_balanceOf_7 : decode cX1_balanceOf 7 = .ok (.iload_n 2, 1) := by decide +kernel
theorem dX1_balanceOf_8 : decode cX1_balanceOf 8 = .ok (.if_icmp .ge 37, 3) := by decide +kernel
theorem dX1_balanceOf_11 : decode cX1_balanceOf 11 = .ok (.iload_n 3, 1) := by decide +kernel
theorem dX1_balanceOf_12 : decode cX1_balanceOf 12 = .ok (.aload_n 0, 1) := by decide +kernel
theorem dX1_balanceOf_13 : decode cX1_balanceOf 13 = .ok (.getfield 9, 3) := by decide +kernel
theorem dX1_balanceOf_16 : decode cX1_balanceOf 16 = .ok (.iload 4, 2) := by decide +kernel
theorem dX1_balanceOf_18 : decode cX1_balanceOf 18 = .ok (.bipush 6, 2) := by decide +kernel
theorem dX1_balanceOf_20 : decode cX1_balanceOf 20 = .ok (.imul, 1) := by decide +kernel
theorem dX1_balanceOf_21 : decode cX1_balanceOf 21 = .ok (.iload_n 1, 1) := by decide +kernel
theorem dX1_balanceOf_22 : decode cX1_balanceOf 22 = .ok (.iadd, 1) := by decide +kernel
theorem dX1_balanceOf_23 : decode cX1_balanceOf 23 = .ok (.iaload, 1) := by decide +kernel
theorem dX1_balanceOf_24 : decode cX1_balanceOf 24 = .ok (.aload_n 0, 1) := by decide +kernel
theorem dX1_balanceOf_25 : decode cX1_balanceOf 25 = .ok (.getfield 9, 3) := by decide +kernel
theorem dX1_balanceOf_28 : decode cX1_balanceOf 28 = .ok (.iload_n 1, 1) := by decide +kernel
theorem dX1_balanceOf_29 : decode cX1_balanceOf 29 = .ok (.bipush 6, 2) := by decide +kernel
theorem dX1_balanceOf_31 : decode cX1_balanceOf 31 = .ok (.imul, 1) := by decide +kernel
theorem dX1_balanceOf_32 : decode cX1_balanceOf 32 = .ok (.iload 4, 2) := by decide +kernel
theorem dX1_balanceOf_34 : decode cX1_balanceOf 34 = .ok (.iadd, 1) := by decide +kernel
theorem dX1_balanceOf_35 : decode cX1_balanceOf 35 = .ok (.iaload, 1) := by decide +kernel
theorem dX1_balanceOf_36 : decode cX1_balanceOf 36 = .ok (.isub, 1) := by decide +kernel
theorem dX1_balanceOf_37 : decode cX1_balanceOf 37 = .ok (.iadd, 1) := by decide +kernel
theorem dX1_balanceOf_38 : decode cX1_balanceOf 38 = .ok (.istore_n 3, 1) := by decide +kernel
theorem dX1_balanceOf_39 : decode cX1_balanceOf 39 = .ok (.iinc 4 1, 3) := by decide +kernel
theorem dX1_balanceOf_42 : decode cX1_balanceOf 42 = .ok (.goto (-37), 3) := by decide +kernel
theorem dX1_balanceOf_45 : decode cX1_balanceOf 45 = .ok (.iload_n 3, 1) := by decide +kernel
theorem dX1_balanceOf_46 : decode cX1_balanceOf 46 = .ok (.ireturn, 1) := by decide +kernel
