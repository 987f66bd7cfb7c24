/-! decode rows -/
theorem dX11_readOrder_0 : decode cX11_readOrder 0 = .ok (.aload_n 0, 1) := by decide +kernel
theorem dX11_readOrder_1 : decode cX11_readOrder 1 = .ok (.bipush 21, 2) := by decide +kernel
theorem dX11_readOrder_3 : decode cX11_readOrder 3 = .ok (.invokevirtual 185, 3) := by decide +kernel
theorem dX11_readOrder_6 : decode cX11_readOrder 6 = .ok (.ifCond .eq 22, 3) := by decide +kernel
theorem dX11_readOrder_9 : decode cX11_readOrder 9 = .ok (.aload_n 0, 1) := by decide +kernel
theorem dX11_readOrder_10 : decode cX11_readOrder 10 = .ok (.iconst 0, 1) := by decide +kernel
theorem dX11_readOrder_11 : decode cX11_readOrder 11 = .ok (.invokevirtual 194, 3) := by decide +kernel
theorem dX11_readOrder_14 : decode cX11_readOrder 14 = .ok (.aload_n 0, 1) := by decide +kernel
theorem dX11_readOrder_15 : decode cX11_readOrder 15 = .ok (.bipush 22, 2) := by decide +kernel
theorem dX11_readOrder_17 : decode cX11_readOrder 17 = .ok (.invokevirtual 198, 3) := by decide +kernel
theorem dX11_readOrder_20 : decode cX11_readOrder 20 = .ok (.aload_n 0, 1) := by decide +kernel
theorem dX11_readOrder_21 : decode cX11_readOrder 21 = .ok (.iconst 0, 1) := by decide +kernel
theorem dX11_readOrder_22 : decode cX11_readOrder 22 = .ok (.invokevirtual 194, 3) := by decide +kernel
theorem dX11_readOrder_25 : decode cX11_readOrder 25 = .ok (.goto 54, 3) := by decide +kernel
theorem dX11_readOrder_28 : decode cX11_readOrder 28 = .ok (.aload_n 0, 1) := by decide +kernel
theorem dX11_readOrder_29 : decode cX11_readOrder 29 = .ok (.bipush 23, 2) := by decide +kernel
theorem dX11_readOrder_31 : decode cX11_readOrder 31 = .ok (.invokevirtual 185, 3) := by decide +kernel
theorem dX11_readOrder_34 : decode cX11_readOrder 34 = .ok (.ifCond .eq 22, 3) := by decide +kernel
theorem dX11_readOrder_37 : decode cX11_readOrder 37 = .ok (.aload_n 0, 1) := by decide +kernel
theorem dX11_readOrder_38 : decode cX11_readOrder 38 = .ok (.iconst 0, 1) := by decide +kernel
theorem dX11_readOrder_39 : decode cX11_readOrder 39 = .ok (.invokevirtual 194, 3) := by decide +kernel
theorem dX11_readOrder_42 : decode cX11_readOrder 42 = .ok (.aload_n 0, 1) := by decide +kernel
theorem dX11_readOrder_43 : decode cX11_readOrder 43 = .ok (.bipush 24, 2) := by decide +kernel
theorem dX11_readOrder_45 : decode cX11_readOrder 45 = .ok (.invokevirtual 198, 3) := by decide +kernel
theorem dX11_readOrder_48 : decode cX11_readOrder 48 = .ok (.aload_n 0, 1) := by decide +kernel
theorem dX11_readOrder_49 : decode cX11_readOrder 49 = .ok (.iconst 0, 1) := by decide +kernel
theorem dX11_readOrder_50 : decode cX11_readOrder 50 = .ok (.invokevirtual 194, 3) := by decide +kernel
theorem dX11_readOrder_53 : decode cX11_readOrder 53 = .ok (.goto 26, 3) := by decide +kernel
theorem dX11_readOrder_56 : decode cX11_readOrder 56 = .ok (.aload_n 0, 1) := by decide +kernel
theorem dX11_readOrder_57 : decode cX11_readOrder 57 = .ok (.bipush 25, 2) := by decide +kernel
theorem dX11_readOrder_59 : decode cX11_readOrder 59 = .ok (.invokevirtual 185, 3) := by decide +kernel
theorem dX11_readOrder_62 : decode cX11_readOrder 62 = .ok (.ifCond .eq 11, 3) := by decide +kernel
theorem dX11_readOrder_65 : decode cX11_readOrder 65 = .ok (.aload_n 0, 1) := by decide +kernel
theorem dX11_readOrder_66 : decode cX11_readOrder 66 = .ok (.iconst 0, 1) := by decide +kernel
theorem dX11_readOrder_67 : decode cX11_readOrder 67 = .ok (.invokevirtual 194, 3) := by decide +kernel
theorem dX11_readOrder_70 : decode cX11_readOrder 70 = .ok (.goto 9, 3) := by decide +kernel
theorem dX11_readOrder_73 : decode cX11_readOrder 73 = .ok (.aload_n 0, 1) := by decide +kernel
theorem dX11_readOrder_74 : decode cX11_readOrder 74 = .ok (.bipush 26, 2) := by decide +kernel
theorem dX11_readOrder_76 : decode cX11_readOrder 76 = .ok (.invokevirtual 198, 3) := by decide +kernel
theorem dX11_readOrder_79 : decode cX11_readOrder 79 = .ok (.aload_n 0, 1) := by decide +kernel
theorem dX11_readOrder_80 : decode cX11_readOrder 80 = .ok (.bipush 27, 2) := by decide +kernel
theorem dX11_readOrder_82 : decode cX11_readOrder 82 = .ok (.invokevirtual 185, 3) := by decide +kernel
theorem dX11_readOrder_85 : decode cX11_readOrder 85 = .ok (.ifCond .eq 10, 3) := by decide +kernel
theorem dX11_readOrder_88 : decode cX11_readOrder 88 = .ok (.aload_n 0, 1) := by decide +kernel
theorem dX11_readOrder_89 : decode cX11_readOrder 89 = .ok (.iconst 1, 1) := by decide +kernel
theorem dX11_readOrder_90 : decode cX11_readOrder 90 = .ok (.bipush 20, 2) := by decide +kernel
theorem dX11_readOrder_92 : decode cX11_readOrder 92 = .ok (.invokevirtual 204, 3) := by decide +kernel
theorem dX11_readOrder_95 : decode cX11_readOrder 95 = .ok (.aload_n 0, 1) := by decide +kernel
theorem dX11_readOrder_96 : decode cX11_readOrder 96 = .ok (.iconst 4, 1) := by decide +kernel
theorem dX11_readOrder_97 : decode cX11_readOrder 97 = .ok (.invokevirtual 185, 3) := by decide +kernel
theorem dX11_readOrder_100 : decode cX11_readOrder 100 = .ok (.ifCond .eq 8, 3) := by decide +kernel
theorem dX11_readOrder_103 : decode cX11_readOrder 103 = .ok (.aload_n 0, 1) := by decide +kernel
theorem dX11_readOrder_104 : decode cX11_readOrder 104 = .ok (.iconst 0, 1) := by decide +kernel
theorem dX11_readOrder_105 : decode cX11_readOrder 105 = .ok (.invokevirtual 201, 3) := by decide +kernel
theorem dX11_readOrder_108 : decode cX11_readOrder 108 = .ok (.return_, 1) := by decide +kernel
theorem dX11_readOne_0 : decode cX11_readOne 0 = .ok (.aload_n 0, 1) := by decide +kernel
theorem dX11_readOne_1 : decode cX11_readOne 1 = .ok (.getfield 208, 3) := by decide +kernel
theorem dX11_readOne_4 : decode cX11_readOne 4 = .ok (.ifCond .eq 10, 3) := by decide +kernel
theorem dX11_readOne_7 : decode cX11_readOne 7 = .ok (.aload_n 0, 1) := by decide +kernel
theorem dX11_readOne_8 : decode cX11_readOne 8 = .ok (.invokevirtual 212, 3) := by decide +kernel
theorem dX11_readOne_11 : decode cX11_readOne 11 = .ok (.goto 7, 3) := by decide +kernel
theorem dX11_readOne_14 : decode cX11_readOne 14 = .ok (.aload_n 0, 1) := by decide +kernel
theorem dX11_readOne_15 : decode cX11_readOne 15 = .ok (.invokevirtual 215, 3) := by decide +kernel
theorem dX11_readOne_18 : decode cX11_readOne 18 = .ok (.return_, 1) := by decide +kernel
theorem dX11_readTest_0 : decode cX11_readTest 0 = .ok (.aload_n 0, 1) := by decide +kernel
theorem dX11_readTest_1 : decode cX11_readTest 1 = .ok (.iload_n 1, 1) := by decide +kernel
theorem dX11_readTest_2 : decode cX11_readTest 2 = .ok (.invokevirtual 218, 3) := by decide +kernel
theorem dX11_readTest_5 : decode cX11_readTest 5 = .ok (.aload_n 0, 1) := by decide +kernel
theorem dX11_readTest_6 : decode cX11_readTest 6 = .ok (.iconst 5, 1) := by decide +kernel
theorem dX11_readTest_7 : decode cX11_readTest 7 = .ok (.invokevirtual 185, 3) := by decide +kernel
theorem dX11_readTest_10 : decode cX11_readTest 10 = .ok (.ifCond .eq 11, 3) := by decide +kernel
theorem dX11_readTest_13 : decode cX11_readTest 13 = .ok (.aload_n 0, 1) := by decide +kernel
theorem dX11_readTest_14 : decode cX11_readTest 14 = .ok (.iload_n 1, 1) := by decide +kernel
theorem dX11_readTest_15 : decode cX11_readTest 15 = .ok (.invokevirtual 218, 3) := by decide +kernel
theorem dX11_readTest_18 : decode cX11_readTest 18 = .ok (.goto (-13), 3) := by decide +kernel
theorem dX11_readTest_21 : decode cX11_readTest 21 = .ok (.return_, 1) := by decide +kernel
theorem dX11_readBoth_0 : decode cX11_readBoth 0 = .ok (.aload_n 0, 1) := by decide +kernel
theorem dX11_readBoth_1 : decode cX11_readBoth 1 = .ok (.iload_n 1, 1) := by decide +kernel
theorem dX11_readBoth_2 : decode cX11_readBoth 2 = .ok (.invokevirtual 221, 3) := by decide +kernel
theorem dX11_readBoth_5 : decode cX11_readBoth 5 = .ok (.aload_n 0, 1) := by decide +kernel
theorem dX11_readBoth_6 : decode cX11_readBoth 6 = .ok (.bipush 6, 2) := by decide +kernel
theorem dX11_readBoth_8 : decode cX11_readBoth 8 = .ok (.invokevirtual 185, 3) := by decide +kernel
theorem dX11_readBoth_11 : decode cX11_readBoth 11 = .ok (.ifCond .eq 11, 3) := by decide +kernel
theorem dX11_readBoth_14 : decode cX11_readBoth 14 = .ok (.aload_n 0, 1) := by decide +kernel
theorem dX11_readBoth_15 : decode cX11_readBoth 15 = .ok (.iload_n 1, 1) := by decide +kernel
theorem dX11_readBoth_16 : decode cX11_readBoth 16 = .ok (.invokevirtual 221, 3) := by decide +kernel
theorem dX11_readBoth_19 : decode cX11_readBoth 19 = .ok (.goto (-14), 3) := by decide +kernel
theorem dX11_readBoth_22 : decode cX11_readBoth 22 = .ok (.return_, 1) := by decide +kernel
theorem dX11_readPlain_0 : decode cX11_readPlain 0 = .ok (.iconst 1, 1) := by decide +kernel
theorem dX11_readPlain_1 : decode cX11_readPlain 1 = .ok (.istore_n 2, 1) := by decide +kernel
theorem dX11_readPlain_2 : decode cX11_readPlain 2 = .ok (.iload_n 2, 1) := by decide +kernel
theorem dX11_readPlain_3 : decode cX11_readPlain 3 = .ok (.ifCond .eq 13, 3) := by decide +kernel
theorem dX11_readPlain_6 : decode cX11_readPlain 6 = .ok (.aload_n 0, 1) := by decide +kernel
theorem dX11_readPlain_7 : decode cX11_readPlain 7 = .ok (.bipush 7, 2) := by decide +kernel
theorem dX11_readPlain_9 : decode cX11_readPlain 9 = .ok (.invokevirtual 185, 3) := by decide +kernel
theorem dX11_readPlain_12 : decode cX11_readPlain 12 = .ok (.istore_n 2, 1) := by decide +kernel
theorem dX11_readPlain_13 : decode cX11_readPlain 13 = .ok (.goto (-11), 3) := by decide +kernel
theorem dX11_readPlain_16 : decode cX11_readPlain 16 = .ok (.aload_n 0, 1) := by decide +kernel
theorem dX11_readPlain_17 : decode cX11_readPlain 17 = .ok (.invokevirtual 178, 3) := by decide +kernel
theorem dX11_readPlain_20 : decode cX11_readPlain 20 = .ok (.ifCond .ne 4, 3) := by decide +kernel
theorem dX11_readPlain_23 : decode cX11_readPlain 23 = .ok (.return_, 1) := by decide +kernel
theorem dX11_readPlain_24 : decode cX11_readPlain 24 = .ok (.aload_n 0, 1) := by decide +kernel
theorem dX11_readPlain_25 : decode cX11_readPlain 25 = .ok (.getfield 54, 3) := by decide +kernel
theorem dX11_readPlain_28 : decode cX11_readPlain 28 = .ok (.aload_n 0, 1) := by decide +kernel
theorem dX11_readPlain_29 : decode cX11_readPlain 29 = .ok (.getfield 182, 3) := by decide +kernel
theorem dX11_readPlain_32 : decode cX11_readPlain 32 = .ok (.iaload, 1) := by decide +kernel
theorem dX11_readPlain_33 : decode cX11_readPlain 33 = .ok (.istore_n 3, 1) := by decide +kernel
theorem dX11_readPlain_34 : decode cX11_readPlain 34 = .ok (.iload_n 3, 1) := by decide +kernel
theorem dX11_readPlain_35 : decode cX11_readPlain 35 = .ok (.bipush 40, 2) := by decide +kernel
theorem dX11_readPlain_37 : decode cX11_readPlain 37 = .ok (.invokestatic 224, 3) := by decide +kernel
theorem dX11_readPlain_40 : decode cX11_readPlain 40 = .ok (.if_icmp .ne 50, 3) := by decide +kernel
theorem dX11_readPlain_43 : decode cX11_readPlain 43 = .ok (.iload_n 1, 1) := by decide +kernel
theorem dX11_readPlain_44 : decode cX11_readPlain 44 = .ok (.bipush 8, 2) := by decide +kernel
theorem dX11_readPlain_46 : decode cX11_readPlain 46 = .ok (.if_icmp .ne 7, 3) := by decide +kernel
theorem dX11_readPlain_49 : decode cX11_readPlain 49 = .ok (.aload_n 0, 1) := by decide +kernel
theorem dX11_readPlain_50 : decode cX11_readPlain 50 = .ok (.invokevirtual 188, 3) := by decide +kernel
theorem dX11_readPlain_53 : decode cX11_readPlain 53 = .ok (.aload_n 0, 1) := by decide +kernel
theorem dX11_readPlain_54 : decode cX11_readPlain 54 = .ok (.invokevirtual 178, 3) := by decide +kernel
theorem dX11_readPlain_57 : decode cX11_readPlain 57 = .ok (.ifCond .ne 4, 3) := by decide +kernel
theorem dX11_readPlain_60 : decode cX11_readPlain 60 = .ok (.return_, 1) := by decide +kernel
theorem dX11_readPlain_61 : decode cX11_readPlain 61 = .ok (.aload_n 0, 1) := by decide +kernel
theorem dX11_readPlain_62 : decode cX11_readPlain 62 = .ok (.dup, 1) := by decide +kernel
theorem dX11_readPlain_63 : decode cX11_readPlain 63 = .ok (.getfield 182, 3) := by decide +kernel
theorem dX11_readPlain_66 : decode cX11_readPlain 66 = .ok (.iconst 1, 1) := by decide +kernel
theorem dX11_readPlain_67 : decode cX11_readPlain 67 = .ok (.iadd, 1) := by decide +kernel
theorem dX11_readPlain_68 : decode cX11_readPlain 68 = .ok (.putfield 182, 3) := by decide +kernel
theorem dX11_readPlain_71 : decode cX11_readPlain 71 = .ok (.aload_n 0, 1) := by decide +kernel
theorem dX11_readPlain_72 : decode cX11_readPlain 72 = .ok (.iload_n 1, 1) := by decide +kernel
theorem dX11_readPlain_73 : decode cX11_readPlain 73 = .ok (.iconst 1, 1) := by decide +kernel
theorem dX11_readPlain_74 : decode cX11_readPlain 74 = .ok (.iadd, 1) := by decide +kernel
theorem dX11_readPlain_75 : decode cX11_readPlain 75 = .ok (.invokevirtual 201, 3) := by decide +kernel
theorem dX11_readPlain_78 : decode cX11_readPlain 78 = .ok (.aload_n 0, 1) := by decide +kernel
theorem dX11_readPlain_79 : decode cX11_readPlain 79 = .ok (.bipush 41, 2) := by decide +kernel
theorem dX11_readPlain_81 : decode cX11_readPlain 81 = .ok (.invokestatic 224, 3) := by decide +kernel
theorem dX11_readPlain_84 : decode cX11_readPlain 84 = .ok (.invokevirtual 198, 3) := by decide +kernel
theorem dX11_readPlain_87 : decode cX11_readPlain 87 = .ok (.goto 46, 3) := by decide +kernel
theorem dX11_readPlain_90 : decode cX11_readPlain 90 = .ok (.aload_n 0, 1) := by decide +kernel
theorem dX11_readPlain_91 : decode cX11_readPlain 91 = .ok (.iload_n 1, 1) := by decide +kernel
theorem dX11_readPlain_92 : decode cX11_readPlain 92 = .ok (.invokevirtual 194, 3) := by decide +kernel
theorem dX11_readPlain_95 : decode cX11_readPlain 95 = .ok (.aload_n 0, 1) := by decide +kernel
theorem dX11_readPlain_96 : decode cX11_readPlain 96 = .ok (.bipush 60, 2) := by decide +kernel
theorem dX11_readPlain_98 : decode cX11_readPlain 98 = .ok (.invokestatic 224, 3) := by decide +kernel
theorem dX11_readPlain_101 : decode cX11_readPlain 101 = .ok (.invokevirtual 185, 3) := by decide +kernel
theorem dX11_readPlain_104 : decode cX11_readPlain 104 = .ok (.ifCond .ne 24, 3) := by decide +kernel
theorem dX11_readPlain_107 : decode cX11_readPlain 107 = .ok (.aload_n 0, 1) := by decide +kernel
theorem dX11_readPlain_108 : decode cX11_readPlain 108 = .ok (.bipush 62, 2) := by decide +kernel
theorem dX11_readPlain_110 : decode cX11_readPlain 110 = .ok (.invokestatic 224, 3) := by decide +kernel
theorem dX11_readPlain_113 : decode cX11_readPlain 113 = .ok (.invokevirtual 185, 3) := by decide +kernel
theorem dX11_readPlain_116 : decode cX11_readPlain 116 = .ok (.ifCond .ne 12, 3) := by decide +kernel
theorem dX11_readPlain_119 : decode cX11_readPlain 119 = .ok (.aload_n 0, 1) := by decide +kernel
theorem dX11_readPlain_120 : decode cX11_readPlain 120 = .ok (.bipush 61, 2) := by decide +kernel
theorem dX11_readPlain_122 : decode cX11_readPlain 122 = .ok (.invokestatic 224, 3) := by decide +kernel
theorem dX11_readPlain_125 : decode cX11_readPlain 125 = .ok (.invokevirtual 198, 3) := by decide +kernel
theorem dX11_readPlain_128 : decode cX11_readPlain 128 = .ok (.aload_n 0, 1) := by decide +kernel
theorem dX11_readPlain_129 : decode cX11_readPlain 129 = .ok (.iload_n 1, 1) := by decide +kernel
theorem dX11_readPlain_130 : decode cX11_readPlain 130 = .ok (.invokevirtual 194, 3) := by decide +kernel
theorem dX11_readPlain_133 : decode cX11_readPlain 133 = .ok (.return_, 1) := by decide +kernel
theorem dX11_readSum_0 : decode cX11_readSum 0 = .ok (.aload_n 0, 1) := by decide +kernel
theorem dX11_readSum_1 : decode cX11_readSum 1 = .ok (.iload_n 1, 1) := by decide +kernel
theorem dX11_readSum_2 : decode cX11_readSum 2 = .ok (.invokevirtual 228, 3) := by decide +kernel
theorem dX11_readSum_5 : decode cX11_readSum 5 = .ok (.aload_n 0, 1) := by decide +kernel
theorem dX11_readSum_6 : decode cX11_readSum 6 = .ok (.bipush 43, 2) := by decide +kernel
theorem dX11_readSum_8 : decode cX11_readSum 8 = .ok (.invokestatic 224, 3) := by decide +kernel
theorem dX11_readSum_11 : decode cX11_readSum 11 = .ok (.invokevirtual 185, 3) := by decide +kernel
theorem dX11_readSum_14 : decode cX11_readSum 14 = .ok (.ifCond .ne 15, 3) := by decide +kernel
theorem dX11_readSum_17 : decode cX11_readSum 17 = .ok (.aload_n 0, 1) := by decide +kernel
theorem dX11_readSum_18 : decode cX11_readSum 18 = .ok (.bipush 45, 2) := by decide +kernel
theorem dX11_readSum_20 : decode cX11_readSum 20 = .ok (.invokestatic 224, 3) := by decide +kernel
theorem dX11_readSum_23 : decode cX11_readSum 23 = .ok (.invokevirtual 185, 3) := by decide +kernel
theorem dX11_readSum_26 : decode cX11_readSum 26 = .ok (.ifCond .eq 11, 3) := by decide +kernel
theorem dX11_readSum_29 : decode cX11_readSum 29 = .ok (.aload_n 0, 1) := by decide +kernel
theorem dX11_readSum_30 : decode cX11_readSum 30 = .ok (.iload_n 1, 1) := by decide +kernel
theorem dX11_readSum_31 : decode cX11_readSum 31 = .ok (.invokevirtual 228, 3) := by decide +kernel
theorem dX11_readSum_34 : decode cX11_readSum 34 = .ok (.goto (-29), 3) := by decide +kernel
theorem dX11_readSum_37 : decode cX11_readSum 37 = .ok (.return_, 1) := by decide +kernel
theorem dX11_readTerm_0 : decode cX11_readTerm 0 = .ok (.aload_n 0, 1) := by decide +kernel
theorem dX11_readTerm_1 : decode cX11_readTerm 1 = .ok (.iload_n 1, 1) := by decide +kernel
theorem dX11_readTerm_2 : decode cX11_readTerm 2 = .ok (.invokevirtual 231, 3) := by decide +kernel
theorem dX11_readTerm_5 : decode cX11_readTerm 5 = .ok (.aload_n 0, 1) := by decide +kernel
theorem dX11_readTerm_6 : decode cX11_readTerm 6 = .ok (.bipush 42, 2) := by decide +kernel
theorem dX11_readTerm_8 : decode cX11_readTerm 8 = .ok (.invokestatic 224, 3) := by decide +kernel
theorem dX11_readTerm_11 : decode cX11_readTerm 11 = .ok (.invokevirtual 185, 3) := by decide +kernel
theorem dX11_readTerm_14 : decode cX11_readTerm 14 = .ok (.ifCond .ne 27, 3) := by decide +kernel
theorem dX11_readTerm_17 : decode cX11_readTerm 17 = .ok (.aload_n 0, 1) := by decide +kernel
theorem dX11_readTerm_18 : decode cX11_readTerm 18 = .ok (.bipush 47, 2) := by decide +kernel
theorem dX11_readTerm_20 : decode cX11_readTerm 20 = .ok (.invokestatic 224, 3) := by decide +kernel
theorem dX11_readTerm_23 : decode cX11_readTerm 23 = .ok (.invokevirtual 185, 3) := by decide +kernel
theorem dX11_readTerm_26 : decode cX11_readTerm 26 = .ok (.ifCond .ne 15, 3) := by decide +kernel
theorem dX11_readTerm_29 : decode cX11_readTerm 29 = .ok (.aload_n 0, 1) := by decide +kernel
theorem dX11_readTerm_30 : decode cX11_readTerm 30 = .ok (.bipush 37, 2) := by decide +kernel
theorem dX11_readTerm_32 : decode cX11_readTerm 32 = .ok (.invokestatic 224, 3) := by decide +kernel
theorem dX11_readTerm_35 : decode cX11_readTerm 35 = .ok (.invokevirtual 185, 3) := by decide +kernel
theorem dX11_readTerm_38 : decode cX11_readTerm 38 = .ok (.ifCond .eq 11, 3) := by decide +kernel
theorem dX11_readTerm_41 : decode cX11_readTerm 41 = .ok (.aload_n 0, 1) := by decide +kernel
theorem dX11_readTerm_42 : decode cX11_readTerm 42 = .ok (.iload_n 1, 1) := by decide +kernel
theorem dX11_readTerm_43 : decode cX11_readTerm 43 = .ok (.invokevirtual 231, 3) := by decide +kernel
theorem dX11_readTerm_46 : decode cX11_readTerm 46 = .ok (.goto (-41), 3) := by decide +kernel
theorem dX11_readTerm_49 : decode cX11_readTerm 49 = .ok (.return_, 1) := by decide +kernel
theorem dX11_readPart_0 : decode cX11_readPart 0 = .ok (.aload_n 0, 1) := by decide +kernel
theorem dX11_readPart_1 : decode cX11_readPart 1 = .ok (.invokevirtual 178, 3) := by decide +kernel
theorem dX11_readPart_4 : decode cX11_readPart 4 = .ok (.ifCond .ne 4, 3) := by decide +kernel
theorem dX11_readPart_7 : decode cX11_readPart 7 = .ok (.return_, 1) := by decide +kernel
theorem dX11_readPart_8 : decode cX11_readPart 8 = .ok (.aload_n 0, 1) := by decide +kernel
theorem dX11_readPart_9 : decode cX11_readPart 9 = .ok (.getfield 54, 3) := by decide +kernel
theorem dX11_readPart_12 : decode cX11_readPart 12 = .ok (.aload_n 0, 1) := by decide +kernel
theorem dX11_readPart_13 : decode cX11_readPart 13 = .ok (.getfield 182, 3) := by decide +kernel
theorem dX11_readPart_16 : decode cX11_readPart 16 = .ok (.iaload, 1) := by decide +kernel
theorem dX11_readPart_17 : decode cX11_readPart 17 = .ok (.istore_n 2, 1) := by decide +kernel
theorem dX11_readPart_18 : decode cX11_readPart 18 = .ok (.iload_n 2, 1) := by decide +kernel
theorem dX11_readPart_19 : decode cX11_readPart 19 = .ok (.bipush 91, 2) := by decide +kernel
theorem dX11_readPart_21 : decode cX11_readPart 21 = .ok (.invokestatic 224, 3) := by decide +kernel
theorem dX11_readPart_24 : decode cX11_readPart 24 = .ok (.if_icmp .ne 50, 3) := by decide +kernel
theorem dX11_readPart_27 : decode cX11_readPart 27 = .ok (.iload_n 1, 1) := by decide +kernel
theorem dX11_readPart_28 : decode cX11_readPart 28 = .ok (.bipush 8, 2) := by decide +kernel
theorem dX11_readPart_30 : decode cX11_readPart 30 = .ok (.if_icmp .ne 7, 3) := by decide +kernel
theorem dX11_readPart_33 : decode cX11_readPart 33 = .ok (.aload_n 0, 1) := by decide +kernel
theorem dX11_readPart_34 : decode cX11_readPart 34 = .ok (.invokevirtual 188, 3) := by decide +kernel
theorem dX11_readPart_37 : decode cX11_readPart 37 = .ok (.aload_n 0, 1) := by decide +kernel
theorem dX11_readPart_38 : decode cX11_readPart 38 = .ok (.invokevirtual 178, 3) := by decide +kernel
theorem dX11_readPart_41 : decode cX11_readPart 41 = .ok (.ifCond .ne 4, 3) := by decide +kernel
theorem dX11_readPart_44 : decode cX11_readPart 44 = .ok (.return_, 1) := by decide +kernel
theorem dX11_readPart_45 : decode cX11_readPart 45 = .ok (.aload_n 0, 1) := by decide +kernel
theorem dX11_readPart_46 : decode cX11_readPart 46 = .ok (.dup, 1) := by decide +kernel
theorem dX11_readPart_47 : decode cX11_readPart 47 = .ok (.getfield 182, 3) := by decide +kernel
theorem dX11_readPart_50 : decode cX11_readPart 50 = .ok (.iconst 1, 1) := by decide +kernel
theorem dX11_readPart_51 : decode cX11_readPart 51 = .ok (.iadd, 1) := by decide +kernel
theorem dX11_readPart_52 : decode cX11_readPart 52 = .ok (.putfield 182, 3) := by decide +kernel
theorem dX11_readPart_55 : decode cX11_readPart 55 = .ok (.aload_n 0, 1) := by decide +kernel
theorem dX11_readPart_56 : decode cX11_readPart 56 = .ok (.iload_n 1, 1) := by decide +kernel
theorem dX11_readPart_57 : decode cX11_readPart 57 = .ok (.iconst 1, 1) := by decide +kernel
theorem dX11_readPart_58 : decode cX11_readPart 58 = .ok (.iadd, 1) := by decide +kernel
theorem dX11_readPart_59 : decode cX11_readPart 59 = .ok (.invokevirtual 194, 3) := by decide +kernel
theorem dX11_readPart_62 : decode cX11_readPart 62 = .ok (.aload_n 0, 1) := by decide +kernel
theorem dX11_readPart_63 : decode cX11_readPart 63 = .ok (.bipush 93, 2) := by decide +kernel
theorem dX11_readPart_65 : decode cX11_readPart 65 = .ok (.invokestatic 224, 3) := by decide +kernel
theorem dX11_readPart_68 : decode cX11_readPart 68 = .ok (.invokevirtual 198, 3) := by decide +kernel
theorem dX11_readPart_71 : decode cX11_readPart 71 = .ok (.goto 91, 3) := by decide +kernel
theorem dX11_readPart_74 : decode cX11_readPart 74 = .ok (.iload_n 2, 1) := by decide +kernel
theorem dX11_readPart_75 : decode cX11_readPart 75 = .ok (.bipush 50, 2) := by decide +kernel
theorem dX11_readPart_77 : decode cX11_readPart 77 = .ok (.if_icmp .ne 18, 3) := by decide +kernel
theorem dX11_readPart_80 : decode cX11_readPart 80 = .ok (.aload_n 0, 1) := by decide +kernel
theorem dX11_readPart_81 : decode cX11_readPart 81 = .ok (.getfield 57, 3) := by decide +kernel
theorem dX11_readPart_84 : decode cX11_readPart 84 = .ok (.aload_n 0, 1) := by decide +kernel
theorem dX11_readPart_85 : decode cX11_readPart 85 = .ok (.getfield 182, 3) := by decide +kernel
theorem dX11_readPart_88 : decode cX11_readPart 88 = .ok (.iaload, 1) := by decide +kernel
theorem dX11_readPart_89 : decode cX11_readPart 89 = .ok (.sipush 1000, 3) := by decide +kernel
theorem dX11_readPart_92 : decode cX11_readPart 92 = .ok (.if_icmp .le 19, 3) := by decide +kernel
theorem dX11_readPart_95 : decode cX11_readPart 95 = .ok (.iload_n 2, 1) := by decide +kernel
theorem dX11_readPart_96 : decode cX11_readPart 96 = .ok (.aload_n 0, 1) := by decide +kernel
theorem dX11_readPart_97 : decode cX11_readPart 97 = .ok (.getfield 234, 3) := by decide +kernel
theorem dX11_readPart_100 : decode cX11_readPart 100 = .ok (.if_icmp .lt 58, 3) := by decide +kernel
theorem dX11_readPart_103 : decode cX11_readPart 103 = .ok (.iload_n 2, 1) := by decide +kernel
theorem dX11_readPart_104 : decode cX11_readPart 104 = .ok (.aload_n 0, 1) := by decide +kernel
theorem dX11_readPart_105 : decode cX11_readPart 105 = .ok (.getfield 237, 3) := by decide +kernel
theorem dX11_readPart_108 : decode cX11_readPart 108 = .ok (.if_icmp .gt 50, 3) := by decide +kernel
theorem dX11_readPart_111 : decode cX11_readPart 111 = .ok (.aload_n 0, 1) := by decide +kernel
theorem dX11_readPart_112 : decode cX11_readPart 112 = .ok (.invokevirtual 240, 3) := by decide +kernel
theorem dX11_readPart_115 : decode cX11_readPart 115 = .ok (.aload_n 0, 1) := by decide +kernel
theorem dX11_readPart_116 : decode cX11_readPart 116 = .ok (.getfield 208, 3) := by decide +kernel
theorem dX11_readPart_119 : decode cX11_readPart 119 = .ok (.ifCond .eq 16, 3) := by decide +kernel
theorem dX11_readPart_122 : decode cX11_readPart 122 = .ok (.iload_n 2, 1) := by decide +kernel
theorem dX11_readPart_123 : decode cX11_readPart 123 = .ok (.bipush 14, 2) := by decide +kernel
theorem dX11_readPart_125 : decode cX11_readPart 125 = .ok (.if_icmp .ne 10, 3) := by decide +kernel
theorem dX11_readPart_128 : decode cX11_readPart 128 = .ok (.aload_n 0, 1) := by decide +kernel
theorem dX11_readPart_129 : decode cX11_readPart 129 = .ok (.iconst 0, 1) := by decide +kernel
theorem dX11_readPart_130 : decode cX11_readPart 130 = .ok (.bipush 7, 2) := by decide +kernel
theorem dX11_readPart_132 : decode cX11_readPart 132 = .ok (.invokevirtual 204, 3) := by decide +kernel
theorem dX11_readPart_135 : decode cX11_readPart 135 = .ok (.aload_n 0, 1) := by decide +kernel
theorem dX11_readPart_136 : decode cX11_readPart 136 = .ok (.getfield 208, 3) := by decide +kernel
theorem dX11_readPart_139 : decode cX11_readPart 139 = .ok (.ifCond .eq 23, 3) := by decide +kernel
theorem dX11_readPart_142 : decode cX11_readPart 142 = .ok (.iload_n 2, 1) := by decide +kernel
theorem dX11_readPart_143 : decode cX11_readPart 143 = .ok (.bipush 20, 2) := by decide +kernel
theorem dX11_readPart_145 : decode cX11_readPart 145 = .ok (.if_icmp .ne 17, 3) := by decide +kernel
theorem dX11_readPart_148 : decode cX11_readPart 148 = .ok (.aload_n 0, 1) := by decide +kernel
theorem dX11_readPart_149 : decode cX11_readPart 149 = .ok (.iconst 0, 1) := by decide +kernel
theorem dX11_readPart_150 : decode cX11_readPart 150 = .ok (.bipush 15, 2) := by decide +kernel
theorem dX11_readPart_152 : decode cX11_readPart 152 = .ok (.invokevirtual 204, 3) := by decide +kernel
theorem dX11_readPart_155 : decode cX11_readPart 155 = .ok (.goto 7, 3) := by decide +kernel
theorem dX11_readPart_158 : decode cX11_readPart 158 = .ok (.aload_n 0, 1) := by decide +kernel
theorem dX11_readPart_159 : decode cX11_readPart 159 = .ok (.invokevirtual 188, 3) := by decide +kernel
theorem dX11_readPart_162 : decode cX11_readPart 162 = .ok (.return_, 1) := by decide +kernel
theorem dX11_reads_0 : decode cX11_reads 0 = .ok (.aload_n 0, 1) := by decide +kernel
theorem dX11_reads_1 : decode cX11_reads 1 = .ok (.aload_n 0, 1) := by decide +kernel
theorem dX11_reads_2 : decode cX11_reads 2 = .ok (.getfield 155, 3) := by decide +kernel
theorem dX11_reads_5 : decode cX11_reads 5 = .ok (.invokevirtual 243, 3) := by decide +kernel
theorem dX11_reads_8 : decode cX11_reads 8 = .ok (.aload_n 0, 1) := by decide +kernel
theorem dX11_reads_9 : decode cX11_reads 9 = .ok (.iconst 0, 1) := by decide +kernel
theorem dX11_reads_10 : decode cX11_reads 10 = .ok (.putfield 155, 3) := by decide +kernel
theorem dX11_reads_13 : decode cX11_reads 13 = .ok (.aload_n 0, 1) := by decide +kernel
theorem dX11_reads_14 : decode cX11_reads 14 = .ok (.iconst 0, 1) := by decide +kernel
theorem dX11_reads_15 : decode cX11_reads 15 = .ok (.putfield 182, 3) := by decide +kernel
theorem dX11_reads_18 : decode cX11_reads 18 = .ok (.aload_n 0, 1) := by decide +kernel
theorem dX11_reads_19 : decode cX11_reads 19 = .ok (.iconst 0, 1) := by decide +kernel
theorem dX11_reads_20 : decode cX11_reads 20 = .ok (.putfield 191, 3) := by decide +kernel
theorem dX11_reads_23 : decode cX11_reads 23 = .ok (.aload_n 0, 1) := by decide +kernel
theorem dX11_reads_24 : decode cX11_reads 24 = .ok (.iconst (-1), 1) := by decide +kernel
theorem dX11_reads_25 : decode cX11_reads 25 = .ok (.putfield 175, 3) := by decide +kernel
theorem dX11_reads_28 : decode cX11_reads 28 = .ok (.aload_n 0, 1) := by decide +kernel
theorem dX11_reads_29 : decode cX11_reads 29 = .ok (.invokevirtual 246, 3) := by decide +kernel
theorem dX11_reads_32 : decode cX11_reads 32 = .ok (.iconst 1, 1) := by decide +kernel
theorem dX11_reads_33 : decode cX11_reads 33 = .ok (.istore_n 1, 1) := by decide +kernel
theorem dX11_reads_34 : decode cX11_reads 34 = .ok (.aload_n 0, 1) := by decide +kernel
theorem dX11_reads_35 : decode cX11_reads 35 = .ok (.bipush 59, 2) := by decide +kernel
theorem dX11_reads_37 : decode cX11_reads 37 = .ok (.invokestatic 224, 3) := by decide +kernel
theorem dX11_reads_40 : decode cX11_reads 40 = .ok (.invokevirtual 185, 3) := by decide +kernel
theorem dX11_reads_43 : decode cX11_reads 43 = .ok (.ifCond .eq 30, 3) := by decide +kernel
theorem dX11_reads_46 : decode cX11_reads 46 = .ok (.iload_n 1, 1) := by decide +kernel
theorem dX11_reads_47 : decode cX11_reads 47 = .ok (.bipush 12, 2) := by decide +kernel
theorem dX11_reads_49 : decode cX11_reads 49 = .ok (.if_icmp .ne 7, 3) := by decide +kernel
theorem dX11_reads_52 : decode cX11_reads 52 = .ok (.aload_n 0, 1) := by decide +kernel
theorem dX11_reads_53 : decode cX11_reads 53 = .ok (.invokevirtual 188, 3) := by decide +kernel
theorem dX11_reads_56 : decode cX11_reads 56 = .ok (.aload_n 0, 1) := by decide +kernel
theorem dX11_reads_57 : decode cX11_reads 57 = .ok (.invokevirtual 178, 3) := by decide +kernel
theorem dX11_reads_60 : decode cX11_reads 60 = .ok (.ifCond .eq 7, 3) := by decide +kernel
theorem dX11_reads_63 : decode cX11_reads 63 = .ok (.aload_n 0, 1) := by decide +kernel
theorem dX11_reads_64 : decode cX11_reads 64 = .ok (.invokevirtual 246, 3) := by decide +kernel
theorem dX11_reads_67 : decode cX11_reads 67 = .ok (.iinc 1 1, 3) := by decide +kernel
theorem dX11_reads_70 : decode cX11_reads 70 = .ok (.goto (-36), 3) := by decide +kernel
theorem dX11_reads_73 : decode cX11_reads 73 = .ok (.aload_n 0, 1) := by decide +kernel
theorem dX11_reads_74 : decode cX11_reads 74 = .ok (.invokevirtual 178, 3) := by decide +kernel
theorem dX11_reads_77 : decode cX11_reads 77 = .ok (.ifCond .eq 18, 3) := by decide +kernel
theorem dX11_reads_80 : decode cX11_reads 80 = .ok (.aload_n 0, 1) := by decide +kernel
theorem dX11_reads_81 : decode cX11_reads 81 = .ok (.getfield 182, 3) := by decide +kernel
theorem dX11_reads_84 : decode cX11_reads 84 = .ok (.aload_n 0, 1) := by decide +kernel
theorem dX11_reads_85 : decode cX11_reads 85 = .ok (.getfield 161, 3) := by decide +kernel
theorem dX11_reads_88 : decode cX11_reads 88 = .ok (.if_icmp .ge 7, 3) := by decide +kernel
theorem dX11_reads_91 : decode cX11_reads 91 = .ok (.aload_n 0, 1) := by decide +kernel
theorem dX11_reads_92 : decode cX11_reads 92 = .ok (.invokevirtual 188, 3) := by decide +kernel
theorem dX11_reads_95 : decode cX11_reads 95 = .ok (.aload_n 0, 1) := by decide +kernel
theorem dX11_reads_96 : decode cX11_reads 96 = .ok (.aload_n 0, 1) := by decide +kernel
theorem dX11_reads_97 : decode cX11_reads 97 = .ok (.getfield 175, 3) := by decide +kernel
theorem dX11_reads_100 : decode cX11_reads 100 = .ok (.putfield 51, 3) := by decide +kernel
theorem dX11_reads_103 : decode cX11_reads 103 = .ok (.aload_n 0, 1) := by decide +kernel
theorem dX11_reads_104 : decode cX11_reads 104 = .ok (.invokevirtual 178, 3) := by decide +kernel
theorem dX11_reads_107 : decode cX11_reads 107 = .ok (.ireturn, 1) := by decide +kernel
theorem dX11_readsAs_0 : decode cX11_readsAs 0 = .ok (.aload_n 0, 1) := by decide +kernel
theorem dX11_readsAs_1 : decode cX11_readsAs 1 = .ok (.iload_n 1, 1) := by decide +kernel
theorem dX11_readsAs_2 : decode cX11_readsAs 2 = .ok (.putfield 208, 3) := by decide +kernel
theorem dX11_readsAs_5 : decode cX11_readsAs 5 = .ok (.aload_n 0, 1) := by decide +kernel
theorem dX11_readsAs_6 : decode cX11_readsAs 6 = .ok (.iload_n 1, 1) := by decide +kernel
theorem dX11_readsAs_7 : decode cX11_readsAs 7 = .ok (.ifCond .eq 8, 3) := by decide +kernel
theorem dX11_readsAs_10 : decode cX11_readsAs 10 = .ok (.bipush 14, 2) := by decide +kernel
theorem dX11_readsAs_12 : decode cX11_readsAs 12 = .ok (.goto 5, 3) := by decide +kernel
theorem dX11_readsAs_15 : decode cX11_readsAs 15 = .ok (.bipush 8, 2) := by decide +kernel
theorem dX11_readsAs_17 : decode cX11_readsAs 17 = .ok (.putfield 234, 3) := by decide +kernel
theorem dX11_readsAs_20 : decode cX11_readsAs 20 = .ok (.aload_n 0, 1) := by decide +kernel
theorem dX11_readsAs_21 : decode cX11_readsAs 21 = .ok (.iload_n 1, 1) := by decide +kernel
theorem dX11_readsAs_22 : decode cX11_readsAs 22 = .ok (.ifCond .eq 8, 3) := by decide +kernel
theorem dX11_readsAs_25 : decode cX11_readsAs 25 = .ok (.bipush 20, 2) := by decide +kernel
theorem dX11_readsAs_27 : decode cX11_readsAs 27 = .ok (.goto 5, 3) := by decide +kernel
theorem dX11_readsAs_30 : decode cX11_readsAs 30 = .ok (.bipush 15, 2) := by decide +kernel
theorem dX11_readsAs_32 : decode cX11_readsAs 32 = .ok (.putfield 237, 3) := by decide +kernel
theorem dX11_readsAs_35 : decode cX11_readsAs 35 = .ok (.aload_n 0, 1) := by decide +kernel
theorem dX11_readsAs_36 : decode cX11_readsAs 36 = .ok (.invokevirtual 249, 3) := by decide +kernel
theorem dX11_readsAs_39 : decode cX11_readsAs 39 = .ok (.ireturn, 1) := by decide +kernel
theorem dX11_lays_0 : decode cX11_lays 0 = .ok (.aload_n 0, 1) := by decide +kernel
theorem dX11_lays_1 : decode cX11_lays 1 = .ok (.getfield 28, 3) := by decide +kernel
theorem dX11_lays_4 : decode cX11_lays 4 = .ok (.bipush 49, 2) := by decide +kernel
theorem dX11_lays_6 : decode cX11_lays 6 = .ok (.iload_n 1, 1) := by decide +kernel
theorem dX11_lays_7 : decode cX11_lays 7 = .ok (.iadd, 1) := by decide +kernel
theorem dX11_lays_8 : decode cX11_lays 8 = .ok (.aload_n 0, 1) := by decide +kernel
theorem dX11_lays_9 : decode cX11_lays 9 = .ok (.getfield 161, 3) := by decide +kernel
theorem dX11_lays_12 : decode cX11_lays 12 = .ok (.iastore, 1) := by decide +kernel
theorem dX11_lays_13 : decode cX11_lays 13 = .ok (.iconst 0, 1) := by decide +kernel
theorem dX11_lays_14 : decode cX11_lays 14 = .ok (.istore_n 2, 1) := by decide +kernel
theorem dX11_lays_15 : decode cX11_lays 15 = .ok (.iload_n 2, 1) := by decide +kernel
theorem dX11_lays_16 : decode cX11_lays 16 = .ok (.aload_n 0, 1) := by decide +kernel
theorem dX11_lays_17 : decode cX11_lays 17 = .ok (.getfield 161, 3) := by decide +kernel
theorem dX11_lays_20 : decode cX11_lays 20 = .ok (.if_icmp .ge 52, 3) := by decide +kernel
theorem dX11_lays_23 : decode cX11_lays 23 = .ok (.aload_n 0, 1) := by decide +kernel
theorem dX11_lays_24 : decode cX11_lays 24 = .ok (.getfield 28, 3) := by decide +kernel
theorem dX11_lays_27 : decode cX11_lays 27 = .ok (.bipush 56, 2) := by decide +kernel
theorem dX11_lays_29 : decode cX11_lays 29 = .ok (.sipush 400, 3) := by decide +kernel
theorem dX11_lays_32 : decode cX11_lays 32 = .ok (.iload_n 1, 1) := by decide +kernel
theorem dX11_lays_33 : decode cX11_lays 33 = .ok (.imul, 1) := by decide +kernel
theorem dX11_lays_34 : decode cX11_lays 34 = .ok (.iadd, 1) := by decide +kernel
theorem dX11_lays_35 : decode cX11_lays 35 = .ok (.iload_n 2, 1) := by decide +kernel
theorem dX11_lays_36 : decode cX11_lays 36 = .ok (.iadd, 1) := by decide +kernel
theorem dX11_lays_37 : decode cX11_lays 37 = .ok (.aload_n 0, 1) := by decide +kernel
theorem dX11_lays_38 : decode cX11_lays 38 = .ok (.getfield 54, 3) := by decide +kernel
theorem dX11_lays_41 : decode cX11_lays 41 = .ok (.iload_n 2, 1) := by decide +kernel
theorem dX11_lays_42 : decode cX11_lays 42 = .ok (.iaload, 1) := by decide +kernel
theorem dX11_lays_43 : decode cX11_lays 43 = .ok (.iastore, 1) := by decide +kernel
theorem dX11_lays_44 : decode cX11_lays 44 = .ok (.aload_n 0, 1) := by decide +kernel
theorem dX11_lays_45 : decode cX11_lays 45 = .ok (.getfield 28, 3) := by decide +kernel
theorem dX11_lays_48 : decode cX11_lays 48 = .ok (.sipush 2856, 3) := by decide +kernel
theorem dX11_lays_51 : decode cX11_lays 51 = .ok (.sipush 400, 3) := by decide +kernel
theorem dX11_lays_54 : decode cX11_lays 54 = .ok (.iload_n 1, 1) := by decide +kernel
theorem dX11_lays_55 : decode cX11_lays 55 = .ok (.imul, 1) := by decide +kernel
theorem dX11_lays_56 : decode cX11_lays 56 = .ok (.iadd, 1) := by decide +kernel
theorem dX11_lays_57 : decode cX11_lays 57 = .ok (.iload_n 2, 1) := by decide +kernel
theorem dX11_lays_58 : decode cX11_lays 58 = .ok (.iadd, 1) := by decide +kernel
theorem dX11_lays_59 : decode cX11_lays 59 = .ok (.aload_n 0, 1) := by decide +kernel
theorem dX11_lays_60 : decode cX11_lays 60 = .ok (.getfield 57, 3) := by decide +kernel
theorem dX11_lays_63 : decode cX11_lays 63 = .ok (.iload_n 2, 1) := by decide +kernel
theorem dX11_lays_64 : decode cX11_lays 64 = .ok (.iaload, 1) := by decide +kernel
theorem dX11_lays_65 : decode cX11_lays 65 = .ok (.iastore, 1) := by decide +kernel
theorem dX11_lays_66 : decode cX11_lays 66 = .ok (.iinc 2 1, 3) := by decide +kernel
theorem dX11_lays_69 : decode cX11_lays 69 = .ok (.goto (-54), 3) := by decide +kernel
theorem dX11_lays_72 : decode cX11_lays 72 = .ok (.return_, 1) := by decide +kernel
theorem dX11_law_0 : decode cX11_law 0 = .ok (.aload_n 0, 1) := by decide +kernel
theorem dX11_law_1 : decode cX11_law 1 = .ok (.getfield 28, 3) := by decide +kernel
theorem dX11_law_4 : decode cX11_law 4 = .ok (.bipush 47, 2) := by decide +kernel
theorem dX11_law_6 : decode cX11_law 6 = .ok (.iaload, 1) := by decide +kernel
theorem dX11_law_7 : decode cX11_law 7 = .ok (.bipush 6, 2) := by decide +kernel
theorem dX11_law_9 : decode cX11_law 9 = .ok (.if_icmp .ne 15, 3) := by decide +kernel
theorem dX11_law_12 : decode cX11_law 12 = .ok (.aload_n 0, 1) := by decide +kernel
theorem dX11_law_13 : decode cX11_law 13 = .ok (.iconst 0, 1) := by decide +kernel
theorem dX11_law_14 : decode cX11_law 14 = .ok (.putfield 155, 3) := by decide +kernel
theorem dX11_law_17 : decode cX11_law 17 = .ok (.aload_n 0, 1) := by decide +kernel
theorem dX11_law_18 : decode cX11_law 18 = .ok (.bipush (-5), 2) := by decide +kernel
theorem dX11_law_20 : decode cX11_law 20 = .ok (.invokevirtual 112, 3) := by decide +kernel
theorem dX11_law_23 : decode cX11_law 23 = .ok (.ireturn, 1) := by decide +kernel
theorem dX11_law_24 : decode cX11_law 24 = .ok (.aload_n 0, 1) := by decide +kernel
theorem dX11_law_25 : decode cX11_law 25 = .ok (.iconst 0, 1) := by decide +kernel
theorem dX11_law_26 : decode cX11_law 26 = .ok (.invokevirtual 252, 3) := by decide +kernel
theorem dX11_law_29 : decode cX11_law 29 = .ok (.ifCond .ne 10, 3) := by decide +kernel
theorem dX11_law_32 : decode cX11_law 32 = .ok (.aload_n 0, 1) := by decide +kernel
theorem dX11_law_33 : decode cX11_law 33 = .ok (.bipush (-6), 2) := by decide +kernel
theorem dX11_law_35 : decode cX11_law 35 = .ok (.invokevirtual 112, 3) := by decide +kernel
theorem dX11_law_38 : decode cX11_law 38 = .ok (.ireturn, 1) := by decide +kernel
theorem dX11_law_39 : decode cX11_law 39 = .ok (.aload_n 0, 1) := by decide +kernel
theorem dX11_law_40 : decode cX11_law 40 = .ok (.aload_n 0, 1) := by decide +kernel
theorem dX11_law_41 : decode cX11_law 41 = .ok (.getfield 28, 3) := by decide +kernel
theorem dX11_law_44 : decode cX11_law 44 = .ok (.bipush 47, 2) := by decide +kernel
theorem dX11_law_46 : decode cX11_law 46 = .ok (.iaload, 1) := by decide +kernel
theorem dX11_law_47 : decode cX11_law 47 = .ok (.invokevirtual 256, 3) := by decide +kernel
theorem dX11_law_50 : decode cX11_law 50 = .ok (.aload_n 0, 1) := by decide +kernel
theorem dX11_law_51 : decode cX11_law 51 = .ok (.getfield 28, 3) := by decide +kernel
theorem dX11_law_54 : decode cX11_law 54 = .ok (.bipush 47, 2) := by decide +kernel
theorem dX11_law_56 : decode cX11_law 56 = .ok (.dup2, 1) := by decide +kernel
theorem dX11_law_57 : decode cX11_law 57 = .ok (.iaload, 1) := by decide +kernel
theorem dX11_law_58 : decode cX11_law 58 = .ok (.iconst 1, 1) := by decide +kernel
theorem dX11_law_59 : decode cX11_law 59 = .ok (.iadd, 1) := by decide +kernel
theorem dX11_law_60 : decode cX11_law 60 = .ok (.iastore, 1) := by decide +kernel
theorem dX11_law_61 : decode cX11_law 61 = .ok (.aload_n 0, 1) := by decide +kernel
theorem dX11_law_62 : decode cX11_law 62 = .ok (.aload_n 0, 1) := by decide +kernel
theorem dX11_law_63 : decode cX11_law 63 = .ok (.getfield 28, 3) := by decide +kernel
theorem dX11_law_66 : decode cX11_law 66 = .ok (.bipush 47, 2) := by decide +kernel
theorem dX11_law_68 : decode cX11_law 68 = .ok (.iaload, 1) := by decide +kernel
theorem dX11_law_69 : decode cX11_law 69 = .ok (.iconst 1, 1) := by decide +kernel
theorem dX11_law_70 : decode cX11_law 70 = .ok (.isub, 1) := by decide +kernel
theorem dX11_law_71 : decode cX11_law 71 = .ok (.invokevirtual 14, 3) := by decide +kernel
theorem dX11_law_74 : decode cX11_law 74 = .ok (.ireturn, 1) := by decide +kernel
theorem dX11_fault_0 : decode cX11_fault 0 = .ok (.aload_n 0, 1) := by decide +kernel
theorem dX11_fault_1 : decode cX11_fault 1 = .ok (.getfield 51, 3) := by decide +kernel
theorem dX11_fault_4 : decode cX11_fault 4 = .ok (.ireturn, 1) := by decide +kernel
theorem dX11_isLaw_0 : decode cX11_isLaw 0 = .ok (.iload_n 1, 1) := by decide +kernel
theorem dX11_isLaw_1 : decode cX11_isLaw 1 = .ok (.iconst (-1), 1) := by decide +kernel
theorem dX11_isLaw_2 : decode cX11_isLaw 2 = .ok (.aload_n 0, 1) := by decide +kernel
theorem dX11_isLaw_3 : decode cX11_isLaw 3 = .ok (.getfield 28, 3) := by decide +kernel
theorem dX11_isLaw_6 : decode cX11_isLaw 6 = .ok (.bipush 47, 2) := by decide +kernel
theorem dX11_isLaw_8 : decode cX11_isLaw 8 = .ok (.iaload, 1) := by decide +kernel
theorem dX11_isLaw_9 : decode cX11_isLaw 9 = .ok (.iconst 1, 1) := by decide +kernel
theorem dX11_isLaw_10 : decode cX11_isLaw 10 = .ok (.isub, 1) := by decide +kernel
theorem dX11_isLaw_11 : decode cX11_isLaw 11 = .ok (.invokestatic 18, 3) := by decide +kernel
theorem dX11_isLaw_14 : decode cX11_isLaw 14 = .ok (.ireturn, 1) := by decide +kernel
theorem dX11_force_0 : decode cX11_force 0 = .ok (.aload_n 0, 1) := by decide +kernel
theorem dX11_force_1 : decode cX11_force 1 = .ok (.iload_n 1, 1) := by decide +kernel
theorem dX11_force_2 : decode cX11_force 2 = .ok (.invokevirtual 259, 3) := by decide +kernel
theorem dX11_force_5 : decode cX11_force 5 = .ok (.ifCond .ne 10, 3) := by decide +kernel
theorem dX11_force_8 : decode cX11_force 8 = .ok (.aload_n 0, 1) := by decide +kernel
theorem dX11_force_9 : decode cX11_force 9 = .ok (.bipush (-2), 2) := by decide +kernel
theorem dX11_force_11 : decode cX11_force 11 = .ok (.invokevirtual 112, 3) := by decide +kernel
theorem dX11_force_14 : decode cX11_force 14 = .ok (.ireturn, 1) := by decide +kernel
theorem dX11_force_15 : decode cX11_force 15 = .ok (.aload_n 0, 1) := by decide +kernel
theorem dX11_force_16 : decode cX11_force 16 = .ok (.getfield 28, 3) := by decide +kernel
theorem dX11_force_19 : decode cX11_force 19 = .ok (.bipush 48, 2) := by decide +kernel
theorem dX11_force_21 : decode cX11_force 21 = .ok (.iaload, 1) := by decide +kernel
theorem dX11_force_22 : decode cX11_force 22 = .ok (.istore_n 2, 1) := by decide +kernel
theorem dX11_force_23 : decode cX11_force 23 = .ok (.aload_n 0, 1) := by decide +kernel
theorem dX11_force_24 : decode cX11_force 24 = .ok (.getfield 28, 3) := by decide +kernel
theorem dX11_force_27 : decode cX11_force 27 = .ok (.bipush 48, 2) := by decide +kernel
theorem dX11_force_29 : decode cX11_force 29 = .ok (.iload_n 1, 1) := by decide +kernel
theorem dX11_force_30 : decode cX11_force 30 = .ok (.iastore, 1) := by decide +kernel
theorem dX11_force_31 : decode cX11_force 31 = .ok (.aload_n 0, 1) := by decide +kernel
theorem dX11_force_32 : decode cX11_force 32 = .ok (.iload_n 2, 1) := by decide +kernel
theorem dX11_force_33 : decode cX11_force 33 = .ok (.invokevirtual 14, 3) := by decide +kernel
theorem dX11_force_36 : decode cX11_force 36 = .ok (.ireturn, 1) := by decide +kernel
theorem dX11_codeAt_0 : decode cX11_codeAt 0 = .ok (.iload_n 1, 1) := by decide +kernel
theorem dX11_codeAt_1 : decode cX11_codeAt 1 = .ok (.aload_n 0, 1) := by decide +kernel
theorem dX11_codeAt_2 : decode cX11_codeAt 2 = .ok (.getfield 262, 3) := by decide +kernel
theorem dX11_codeAt_5 : decode cX11_codeAt 5 = .ok (.if_icmp .ge 15, 3) := by decide +kernel
theorem dX11_codeAt_8 : decode cX11_codeAt 8 = .ok (.aload_n 0, 1) := by decide +kernel
theorem dX11_codeAt_9 : decode cX11_codeAt 9 = .ok (.getfield 28, 3) := by decide +kernel
theorem dX11_codeAt_12 : decode cX11_codeAt 12 = .ok (.bipush 56, 2) := by decide +kernel
theorem dX11_codeAt_14 : decode cX11_codeAt 14 = .ok (.iload_n 1, 1) := by decide +kernel
theorem dX11_codeAt_15 : decode cX11_codeAt 15 = .ok (.iadd, 1) := by decide +kernel
theorem dX11_codeAt_16 : decode cX11_codeAt 16 = .ok (.iaload, 1) := by decide +kernel
theorem dX11_codeAt_17 : decode cX11_codeAt 17 = .ok (.goto 4, 3) := by decide +kernel
theorem dX11_codeAt_20 : decode cX11_codeAt 20 = .ok (.iconst 0, 1) := by decide +kernel
theorem dX11_codeAt_21 : decode cX11_codeAt 21 = .ok (.ireturn, 1) := by decide +kernel
theorem dX11_passes0_0 : decode cX11_passes0 0 = .ok (.aload_n 0, 1) := by decide +kernel
theorem dX11_passes0_1 : decode cX11_passes0 1 = .ok (.aload_n 0, 1) := by decide +kernel
theorem dX11_passes0_2 : decode cX11_passes0 2 = .ok (.getfield 265, 3) := by decide +kernel
theorem dX11_passes0_5 : decode cX11_passes0 5 = .ok (.invokevirtual 268, 3) := by decide +kernel
theorem dX11_passes0_8 : decode cX11_passes0 8 = .ok (.iload_n 1, 1) := by decide +kernel
theorem dX11_passes0_9 : decode cX11_passes0 9 = .ok (.if_icmp .ne 7, 3) := by decide +kernel
theorem dX11_passes0_12 : decode cX11_passes0 12 = .ok (.iconst 1, 1) := by decide +kernel
theorem dX11_passes0_13 : decode cX11_passes0 13 = .ok (.goto 4, 3) := by decide +kernel
theorem dX11_passes0_16 : decode cX11_passes0 16 = .ok (.iconst 0, 1) := by decide +kernel
theorem dX11_passes0_17 : decode cX11_passes0 17 = .ok (.istore_n 2, 1) := by decide +kernel
theorem dX11_passes0_18 : decode cX11_passes0 18 = .ok (.iload_n 2, 1) := by decide +kernel
theorem dX11_passes0_19 : decode cX11_passes0 19 = .ok (.ifCond .eq 13, 3) := by decide +kernel
theorem dX11_passes0_22 : decode cX11_passes0 22 = .ok (.aload_n 0, 1) := by decide +kernel
theorem dX11_passes0_23 : decode cX11_passes0 23 = .ok (.dup, 1) := by decide +kernel
theorem dX11_passes0_24 : decode cX11_passes0 24 = .ok (.getfield 265, 3) := by decide +kernel
theorem dX11_passes0_27 : decode cX11_passes0 27 = .ok (.iconst 1, 1) := by decide +kernel
theorem dX11_passes0_28 : decode cX11_passes0 28 = .ok (.iadd, 1) := by decide +kernel
theorem dX11_passes0_29 : decode cX11_passes0 29 = .ok (.putfield 265, 3) := by decide +kernel
theorem dX11_passes0_32 : decode cX11_passes0 32 = .ok (.iload_n 2, 1) := by decide +kernel
theorem dX11_passes0_33 : decode cX11_passes0 33 = .ok (.ireturn, 1) := by decide +kernel
theorem dX11_bounded_0 : decode cX11_bounded 0 = .ok (.iload_n 3, 1) := by decide +kernel
theorem dX11_bounded_1 : decode cX11_bounded 1 = .ok (.ifCond .eq 24, 3) := by decide +kernel
theorem dX11_bounded_4 : decode cX11_bounded 4 = .ok (.lload_n 1, 1) := by decide +kernel
theorem dX11_bounded_5 : decode cX11_bounded 5 = .ok (.ldc2_w 271, 3) := by decide +kernel
theorem dX11_bounded_8 : decode cX11_bounded 8 = .ok (.lcmp, 1) := by decide +kernel
theorem dX11_bounded_9 : decode cX11_bounded 9 = .ok (.ifCond .gt 11, 3) := by decide +kernel
theorem dX11_bounded_12 : decode cX11_bounded 12 = .ok (.lload_n 1, 1) := by decide +kernel
theorem dX11_bounded_13 : decode cX11_bounded 13 = .ok (.ldc2_w 273, 3) := by decide +kernel
theorem dX11_bounded_16 : decode cX11_bounded 16 = .ok (.lcmp, 1) := by decide +kernel
theorem dX11_bounded_17 : decode cX11_bounded 17 = .ok (.ifCond .ge 8, 3) := by decide +kernel
theorem dX11_bounded_20 : decode cX11_bounded 20 = .ok (.aload_n 0, 1) := by decide +kernel
theorem dX11_bounded_21 : decode cX11_bounded 21 = .ok (.iconst 1, 1) := by decide +kernel
theorem dX11_bounded_22 : decode cX11_bounded 22 = .ok (.putfield 275, 3) := by decide +kernel
theorem dX11_bounded_25 : decode cX11_bounded 25 = .ok (.aload_n 0, 1) := by decide +kernel
theorem dX11_bounded_26 : decode cX11_bounded 26 = .ok (.getfield 275, 3) := by decide +kernel
theorem dX11_bounded_29 : decode cX11_bounded 29 = .ok (.ifCond .eq 7, 3) := by decide +kernel
theorem dX11_bounded_32 : decode cX11_bounded 32 = .ok (.lconst 0, 1) := by decide +kernel
theorem dX11_bounded_33 : decode cX11_bounded 33 = .ok (.goto 4, 3) := by decide +kernel
theorem dX11_bounded_36 : decode cX11_bounded 36 = .ok (.lload_n 1, 1) := by decide +kernel
theorem dX11_bounded_37 : decode cX11_bounded 37 = .ok (.lreturn, 1) := by decide +kernel
theorem dX11_sumOf_0 : decode cX11_sumOf 0 = .ok (.aload_n 0, 1) := by decide +kernel
theorem dX11_sumOf_1 : decode cX11_sumOf 1 = .ok (.iload_n 1, 1) := by decide +kernel
theorem dX11_sumOf_2 : decode cX11_sumOf 2 = .ok (.invokevirtual 278, 3) := by decide +kernel
theorem dX11_sumOf_5 : decode cX11_sumOf 5 = .ok (.lstore_n 2, 1) := by decide +kernel
theorem dX11_sumOf_6 : decode cX11_sumOf 6 = .ok (.aload_n 0, 1) := by decide +kernel
theorem dX11_sumOf_7 : decode cX11_sumOf 7 = .ok (.aload_n 0, 1) := by decide +kernel
theorem dX11_sumOf_8 : decode cX11_sumOf 8 = .ok (.getfield 265, 3) := by decide +kernel
theorem dX11_sumOf_11 : decode cX11_sumOf 11 = .ok (.invokevirtual 268, 3) := by decide +kernel
theorem dX11_sumOf_14 : decode cX11_sumOf 14 = .ok (.bipush 43, 2) := by decide +kernel
theorem dX11_sumOf_16 : decode cX11_sumOf 16 = .ok (.invokestatic 224, 3) := by decide +kernel
theorem dX11_sumOf_19 : decode cX11_sumOf 19 = .ok (.if_icmp .eq 19, 3) := by decide +kernel
theorem dX11_sumOf_22 : decode cX11_sumOf 22 = .ok (.aload_n 0, 1) := by decide +kernel
theorem dX11_sumOf_23 : decode cX11_sumOf 23 = .ok (.aload_n 0, 1) := by decide +kernel
theorem dX11_sumOf_24 : decode cX11_sumOf 24 = .ok (.getfield 265, 3) := by decide +kernel
theorem dX11_sumOf_27 : decode cX11_sumOf 27 = .ok (.invokevirtual 268, 3) := by decide +kernel
theorem dX11_sumOf_30 : decode cX11_sumOf 30 = .ok (.bipush 45, 2) := by decide +kernel
theorem dX11_sumOf_32 : decode cX11_sumOf 32 = .ok (.invokestatic 224, 3) := by decide +kernel
theorem dX11_sumOf_35 : decode cX11_sumOf 35 = .ok (.if_icmp .ne 68, 3) := by decide +kernel
theorem dX11_sumOf_38 : decode cX11_sumOf 38 = .ok (.aload_n 0, 1) := by decide +kernel
theorem dX11_sumOf_39 : decode cX11_sumOf 39 = .ok (.aload_n 0, 1) := by decide +kernel
theorem dX11_sumOf_40 : decode cX11_sumOf 40 = .ok (.getfield 265, 3) := by decide +kernel
theorem dX11_sumOf_43 : decode cX11_sumOf 43 = .ok (.invokevirtual 268, 3) := by decide +kernel
theorem dX11_sumOf_46 : decode cX11_sumOf 46 = .ok (.bipush 43, 2) := by decide +kernel
theorem dX11_sumOf_48 : decode cX11_sumOf 48 = .ok (.invokestatic 224, 3) := by decide +kernel
theorem dX11_sumOf_51 : decode cX11_sumOf 51 = .ok (.if_icmp .ne 7, 3) := by decide +kernel
theorem dX11_sumOf_54 : decode cX11_sumOf 54 = .ok (.iconst 1, 1) := by decide +kernel
theorem dX11_sumOf_55 : decode cX11_sumOf 55 = .ok (.goto 4, 3) := by decide +kernel
theorem dX11_sumOf_58 : decode cX11_sumOf 58 = .ok (.iconst 0, 1) := by decide +kernel
theorem dX11_sumOf_59 : decode cX11_sumOf 59 = .ok (.istore 4, 2) := by decide +kernel
theorem dX11_sumOf_61 : decode cX11_sumOf 61 = .ok (.aload_n 0, 1) := by decide +kernel
theorem dX11_sumOf_62 : decode cX11_sumOf 62 = .ok (.dup, 1) := by decide +kernel
theorem dX11_sumOf_63 : decode cX11_sumOf 63 = .ok (.getfield 265, 3) := by decide +kernel
theorem dX11_sumOf_66 : decode cX11_sumOf 66 = .ok (.iconst 1, 1) := by decide +kernel
theorem dX11_sumOf_67 : decode cX11_sumOf 67 = .ok (.iadd, 1) := by decide +kernel
theorem dX11_sumOf_68 : decode cX11_sumOf 68 = .ok (.putfield 265, 3) := by decide +kernel
theorem dX11_sumOf_71 : decode cX11_sumOf 71 = .ok (.aload_n 0, 1) := by decide +kernel
theorem dX11_sumOf_72 : decode cX11_sumOf 72 = .ok (.iload_n 1, 1) := by decide +kernel
theorem dX11_sumOf_73 : decode cX11_sumOf 73 = .ok (.invokevirtual 278, 3) := by decide +kernel
theorem dX11_sumOf_76 : decode cX11_sumOf 76 = .ok (.lstore 5, 2) := by decide +kernel
theorem dX11_sumOf_78 : decode cX11_sumOf 78 = .ok (.aload_n 0, 1) := by decide +kernel
theorem dX11_sumOf_79 : decode cX11_sumOf 79 = .ok (.iload 4, 2) := by decide +kernel
theorem dX11_sumOf_81 : decode cX11_sumOf 81 = .ok (.ifCond .eq 10, 3) := by decide +kernel
theorem dX11_sumOf_84 : decode cX11_sumOf 84 = .ok (.lload_n 2, 1) := by decide +kernel
theorem dX11_sumOf_85 : decode cX11_sumOf 85 = .ok (.lload 5, 2) := by decide +kernel
theorem dX11_sumOf_87 : decode cX11_sumOf 87 = .ok (.ladd, 1) := by decide +kernel
theorem dX11_sumOf_88 : decode cX11_sumOf 88 = .ok (.goto 7, 3) := by decide +kernel
theorem dX11_sumOf_91 : decode cX11_sumOf 91 = .ok (.lload_n 2, 1) := by decide +kernel
theorem dX11_sumOf_92 : decode cX11_sumOf 92 = .ok (.lload 5, 2) := by decide +kernel
theorem dX11_sumOf_94 : decode cX11_sumOf 94 = .ok (.lsub, 1) := by decide +kernel
theorem dX11_sumOf_95 : decode cX11_sumOf 95 = .ok (.iload_n 1, 1) := by decide +kernel
theorem dX11_sumOf_96 : decode cX11_sumOf 96 = .ok (.invokevirtual 282, 3) := by decide +kernel
theorem dX11_sumOf_99 : decode cX11_sumOf 99 = .ok (.lstore_n 2, 1) := by decide +kernel
theorem dX11_sumOf_100 : decode cX11_sumOf 100 = .ok (.goto (-94), 3) := by decide +kernel
theorem dX11_sumOf_103 : decode cX11_sumOf 103 = .ok (.lload_n 2, 1) := by decide +kernel
theorem dX11_sumOf_104 : decode cX11_sumOf 104 = .ok (.lreturn, 1) := by decide +kernel
theorem dX11_termOf_0 : decode cX11_termOf 0 = .ok (.aload_n 0, 1) := by decide +kernel
theorem dX11_termOf_1 : decode cX11_termOf 1 = .ok (.iload_n 1, 1) := by decide +kernel
theorem dX11_termOf_2 : decode cX11_termOf 2 = .ok (.invokevirtual 286, 3) := by decide +kernel
theorem dX11_termOf_5 : decode cX11_termOf 5 = .ok (.lstore_n 2, 1) := by decide +kernel
theorem dX11_termOf_6 : decode cX11_termOf 6 = .ok (.aload_n 0, 1) := by decide +kernel
theorem dX11_termOf_7 : decode cX11_termOf 7 = .ok (.aload_n 0, 1) := by decide +kernel
theorem dX11_termOf_8 : decode cX11_termOf 8 = .ok (.getfield 265, 3) := by decide +kernel
theorem dX11_termOf_11 : decode cX11_termOf 11 = .ok (.invokevirtual 268, 3) := by decide +kernel
theorem dX11_termOf_14 : decode cX11_termOf 14 = .ok (.bipush 42, 2) := by decide +kernel
theorem dX11_termOf_16 : decode cX11_termOf 16 = .ok (.invokestatic 224, 3) := by decide +kernel
theorem dX11_termOf_19 : decode cX11_termOf 19 = .ok (.if_icmp .eq 35, 3) := by decide +kernel
theorem dX11_termOf_22 : decode cX11_termOf 22 = .ok (.aload_n 0, 1) := by decide +kernel
theorem dX11_termOf_23 : decode cX11_termOf 23 = .ok (.aload_n 0, 1) := by decide +kernel
theorem dX11_termOf_24 : decode cX11_termOf 24 = .ok (.getfield 265, 3) := by decide +kernel
theorem dX11_termOf_27 : decode cX11_termOf 27 = .ok (.invokevirtual 268, 3) := by decide +kernel
theorem dX11_termOf_30 : decode cX11_termOf 30 = .ok (.bipush 47, 2) := by decide +kernel
theorem dX11_termOf_32 : decode cX11_termOf 32 = .ok (.invokestatic 224, 3) := by decide +kernel
theorem dX11_termOf_35 : decode cX11_termOf 35 = .ok (.if_icmp .eq 19, 3) := by decide +kernel
theorem dX11_termOf_38 : decode cX11_termOf 38 = .ok (.aload_n 0, 1) := by decide +kernel
theorem dX11_termOf_39 : decode cX11_termOf 39 = .ok (.aload_n 0, 1) := by decide +kernel
theorem dX11_termOf_40 : decode cX11_termOf 40 = .ok (.getfield 265, 3) := by decide +kernel
theorem dX11_termOf_43 : decode cX11_termOf 43 = .ok (.invokevirtual 268, 3) := by decide +kernel
theorem dX11_termOf_46 : decode cX11_termOf 46 = .ok (.bipush 37, 2) := by decide +kernel
theorem dX11_termOf_48 : decode cX11_termOf 48 = .ok (.invokestatic 224, 3) := by decide +kernel
theorem dX11_termOf_51 : decode cX11_termOf 51 = .ok (.if_icmp .ne 117, 3) := by decide +kernel
theorem dX11_termOf_54 : decode cX11_termOf 54 = .ok (.aload_n 0, 1) := by decide +kernel
theorem dX11_termOf_55 : decode cX11_termOf 55 = .ok (.aload_n 0, 1) := by decide +kernel
theorem dX11_termOf_56 : decode cX11_termOf 56 = .ok (.getfield 265, 3) := by decide +kernel
theorem dX11_termOf_59 : decode cX11_termOf 59 = .ok (.invokevirtual 268, 3) := by decide +kernel
theorem dX11_termOf_62 : decode cX11_termOf 62 = .ok (.istore 4, 2) := by decide +kernel
theorem dX11_termOf_64 : decode cX11_termOf 64 = .ok (.aload_n 0, 1) := by decide +kernel
theorem dX11_termOf_65 : decode cX11_termOf 65 = .ok (.dup, 1) := by decide +kernel
theorem dX11_termOf_66 : decode cX11_termOf 66 = .ok (.getfield 265, 3) := by decide +kernel
theorem dX11_termOf_69 : decode cX11_termOf 69 = .ok (.iconst 1, 1) := by decide +kernel
theorem dX11_termOf_70 : decode cX11_termOf 70 = .ok (.iadd, 1) := by decide +kernel
theorem dX11_termOf_71 : decode cX11_termOf 71 = .ok (.putfield 265, 3) := by decide +kernel
theorem dX11_termOf_74 : decode cX11_termOf 74 = .ok (.aload_n 0, 1) := by decide +kernel
theorem dX11_termOf_75 : decode cX11_termOf 75 = .ok (.iload_n 1, 1) := by decide +kernel
theorem dX11_termOf_76 : decode cX11_termOf 76 = .ok (.invokevirtual 286, 3) := by decide +kernel
theorem dX11_termOf_79 : decode cX11_termOf 79 = .ok (.lstore 5, 2) := by decide +kernel
theorem dX11_termOf_81 : decode cX11_termOf 81 = .ok (.iload 4, 2) := by decide +kernel
theorem dX11_termOf_83 : decode cX11_termOf 83 = .ok (.bipush 42, 2) := by decide +kernel
theorem dX11_termOf_85 : decode cX11_termOf 85 = .ok (.invokestatic 224, 3) := by decide +kernel
theorem dX11_termOf_88 : decode cX11_termOf 88 = .ok (.if_icmp .eq 33, 3) := by decide +kernel
theorem dX11_termOf_91 : decode cX11_termOf 91 = .ok (.lload 5, 2) := by decide +kernel
theorem dX11_termOf_93 : decode cX11_termOf 93 = .ok (.lconst 0, 1) := by decide +kernel
theorem dX11_termOf_94 : decode cX11_termOf 94 = .ok (.lcmp, 1) := by decide +kernel
theorem dX11_termOf_95 : decode cX11_termOf 95 = .ok (.ifCond .ne 26, 3) := by decide +kernel
theorem dX11_termOf_98 : decode cX11_termOf 98 = .ok (.aload_n 0, 1) := by decide +kernel
theorem dX11_termOf_99 : decode cX11_termOf 99 = .ok (.aload_n 0, 1) := by decide +kernel
theorem dX11_termOf_100 : decode cX11_termOf 100 = .ok (.getfield 275, 3) := by decide +kernel
theorem dX11_termOf_103 : decode cX11_termOf 103 = .ok (.ifCond .ne 7, 3) := by decide +kernel
theorem dX11_termOf_106 : decode cX11_termOf 106 = .ok (.iload_n 1, 1) := by decide +kernel
theorem dX11_termOf_107 : decode cX11_termOf 107 = .ok (.ifCond .eq 7, 3) := by decide +kernel
theorem dX11_termOf_110 : decode cX11_termOf 110 = .ok (.iconst 1, 1) := by decide +kernel
theorem dX11_termOf_111 : decode cX11_termOf 111 = .ok (.goto 4, 3) := by decide +kernel
theorem dX11_termOf_114 : decode cX11_termOf 114 = .ok (.iconst 0, 1) := by decide +kernel
theorem dX11_termOf_115 : decode cX11_termOf 115 = .ok (.putfield 275, 3) := by decide +kernel
theorem dX11_termOf_118 : decode cX11_termOf 118 = .ok (.lconst 1, 1) := by decide +kernel
theorem dX11_termOf_119 : decode cX11_termOf 119 = .ok (.lstore 5, 2) := by decide +kernel
theorem dX11_termOf_121 : decode cX11_termOf 121 = .ok (.aload_n 0, 1) := by decide +kernel
theorem dX11_termOf_122 : decode cX11_termOf 122 = .ok (.iload 4, 2) := by decide +kernel
theorem dX11_termOf_124 : decode cX11_termOf 124 = .ok (.bipush 42, 2) := by decide +kernel
theorem dX11_termOf_126 : decode cX11_termOf 126 = .ok (.invokestatic 224, 3) := by decide +kernel
theorem dX11_termOf_129 : decode cX11_termOf 129 = .ok (.if_icmp .ne 10, 3) := by decide +kernel
theorem dX11_termOf_132 : decode cX11_termOf 132 = .ok (.lload_n 2, 1) := by decide +kernel
theorem dX11_termOf_133 : decode cX11_termOf 133 = .ok (.lload 5, 2) := by decide +kernel
theorem dX11_termOf_135 : decode cX11_termOf 135 = .ok (.lmul, 1) := by decide +kernel
theorem dX11_termOf_136 : decode cX11_termOf 136 = .ok (.goto 24, 3) := by decide +kernel
theorem dX11_termOf_139 : decode cX11_termOf 139 = .ok (.iload 4, 2) := by decide +kernel
theorem dX11_termOf_141 : decode cX11_termOf 141 = .ok (.bipush 47, 2) := by decide +kernel
theorem dX11_termOf_143 : decode cX11_termOf 143 = .ok (.invokestatic 224, 3) := by decide +kernel
theorem dX11_termOf_146 : decode cX11_termOf 146 = .ok (.if_icmp .ne 10, 3) := by decide +kernel
theorem dX11_termOf_149 : decode cX11_termOf 149 = .ok (.lload_n 2, 1) := by decide +kernel
theorem dX11_termOf_150 : decode cX11_termOf 150 = .ok (.lload 5, 2) := by decide +kernel
theorem dX11_termOf_152 : decode cX11_termOf 152 = .ok (.ldiv, 1) := by decide +kernel
theorem dX11_termOf_153 : decode cX11_termOf 153 = .ok (.goto 7, 3) := by decide +kernel
theorem dX11_termOf_156 : decode cX11_termOf 156 = .ok (.lload_n 2, 1) := by decide +kernel
theorem dX11_termOf_157 : decode cX11_termOf 157 = .ok (.lload 5, 2) := by decide +kernel
theorem dX11_termOf_159 : decode cX11_termOf 159 = .ok (.lrem, 1) := by decide +kernel
theorem dX11_termOf_160 : decode cX11_termOf 160 = .ok (.iload_n 1, 1) := by decide +kernel
theorem dX11_termOf_161 : decode cX11_termOf 161 = .ok (.invokevirtual 282, 3) := by decide +kernel
theorem dX11_termOf_164 : decode cX11_termOf 164 = .ok (.lstore_n 2, 1) := by decide +kernel
theorem dX11_termOf_165 : decode cX11_termOf 165 = .ok (.goto (-159), 3) := by decide +kernel
theorem dX11_termOf_168 : decode cX11_termOf 168 = .ok (.lload_n 2, 1) := by decide +kernel
theorem dX11_termOf_169 : decode cX11_termOf 169 = .ok (.lreturn, 1) := by decide +kernel
theorem dX11_partOf_0 : decode cX11_partOf 0 = .ok (.aload_n 0, 1) := by decide +kernel
theorem dX11_partOf_1 : decode cX11_partOf 1 = .ok (.bipush 91, 2) := by decide +kernel
theorem dX11_partOf_3 : decode cX11_partOf 3 = .ok (.invokestatic 224, 3) := by decide +kernel
theorem dX11_partOf_6 : decode cX11_partOf 6 = .ok (.invokevirtual 289, 3) := by decide +kernel
theorem dX11_partOf_9 : decode cX11_partOf 9 = .ok (.ifCond .eq 21, 3) := by decide +kernel
theorem dX11_partOf_12 : decode cX11_partOf 12 = .ok (.aload_n 0, 1) := by decide +kernel
theorem dX11_partOf_13 : decode cX11_partOf 13 = .ok (.iload_n 1, 1) := by decide +kernel
theorem dX11_partOf_14 : decode cX11_partOf 14 = .ok (.invokevirtual 292, 3) := by decide +kernel
theorem dX11_partOf_17 : decode cX11_partOf 17 = .ok (.lstore_n 2, 1) := by decide +kernel
theorem dX11_partOf_18 : decode cX11_partOf 18 = .ok (.aload_n 0, 1) := by decide +kernel
theorem dX11_partOf_19 : decode cX11_partOf 19 = .ok (.dup, 1) := by decide +kernel
theorem dX11_partOf_20 : decode cX11_partOf 20 = .ok (.getfield 265, 3) := by decide +kernel
theorem dX11_partOf_23 : decode cX11_partOf 23 = .ok (.iconst 1, 1) := by decide +kernel
theorem dX11_partOf_24 : decode cX11_partOf 24 = .ok (.iadd, 1) := by decide +kernel
theorem dX11_partOf_25 : decode cX11_partOf 25 = .ok (.putfield 265, 3) := by decide +kernel
theorem dX11_partOf_28 : decode cX11_partOf 28 = .ok (.lload_n 2, 1) := by decide +kernel
theorem dX11_partOf_29 : decode cX11_partOf 29 = .ok (.lreturn, 1) := by decide +kernel
theorem dX11_partOf_30 : decode cX11_partOf 30 = .ok (.aload_n 0, 1) := by decide +kernel
theorem dX11_partOf_31 : decode cX11_partOf 31 = .ok (.aload_n 0, 1) := by decide +kernel
theorem dX11_partOf_32 : decode cX11_partOf 32 = .ok (.getfield 265, 3) := by decide +kernel
theorem dX11_partOf_35 : decode cX11_partOf 35 = .ok (.invokevirtual 268, 3) := by decide +kernel
theorem dX11_partOf_38 : decode cX11_partOf 38 = .ok (.istore_n 2, 1) := by decide +kernel
theorem dX11_partOf_39 : decode cX11_partOf 39 = .ok (.iconst 0, 1) := by decide +kernel
theorem dX11_partOf_40 : decode cX11_partOf 40 = .ok (.istore_n 3, 1) := by decide +kernel
theorem dX11_partOf_41 : decode cX11_partOf 41 = .ok (.aload_n 0, 1) := by decide +kernel
theorem dX11_partOf_42 : decode cX11_partOf 42 = .ok (.dup, 1) := by decide +kernel
theorem dX11_partOf_43 : decode cX11_partOf 43 = .ok (.getfield 265, 3) := by decide +kernel
theorem dX11_partOf_46 : decode cX11_partOf 46 = .ok (.iconst 1, 1) := by decide +kernel
theorem dX11_partOf_47 : decode cX11_partOf 47 = .ok (.iadd, 1) := by decide +kernel
theorem dX11_partOf_48 : decode cX11_partOf 48 = .ok (.putfield 265, 3) := by decide +kernel
theorem dX11_partOf_51 : decode cX11_partOf 51 = .ok (.aload_n 0, 1) := by decide +kernel
theorem dX11_partOf_52 : decode cX11_partOf 52 = .ok (.getfield 295, 3) := by decide +kernel
theorem dX11_partOf_55 : decode cX11_partOf 55 = .ok (.ifCond .eq 39, 3) := by decide +kernel
theorem dX11_partOf_58 : decode cX11_partOf 58 = .ok (.iload_n 2, 1) := by decide +kernel
theorem dX11_partOf_59 : decode cX11_partOf 59 = .ok (.bipush 14, 2) := by decide +kernel
theorem dX11_partOf_61 : decode cX11_partOf 61 = .ok (.if_icmp .eq 9, 3) := by decide +kernel
theorem dX11_partOf_64 : decode cX11_partOf 64 = .ok (.iload_n 2, 1) := by decide +kernel
theorem dX11_partOf_65 : decode cX11_partOf 65 = .ok (.bipush 20, 2) := by decide +kernel
theorem dX11_partOf_67 : decode cX11_partOf 67 = .ok (.if_icmp .ne 27, 3) := by decide +kernel
theorem dX11_partOf_70 : decode cX11_partOf 70 = .ok (.aload_n 0, 1) := by decide +kernel
theorem dX11_partOf_71 : decode cX11_partOf 71 = .ok (.getfield 28, 3) := by decide +kernel
theorem dX11_partOf_74 : decode cX11_partOf 74 = .ok (.sipush 2856, 3) := by decide +kernel
theorem dX11_partOf_77 : decode cX11_partOf 77 = .ok (.aload_n 0, 1) := by decide +kernel
theorem dX11_partOf_78 : decode cX11_partOf 78 = .ok (.getfield 265, 3) := by decide +kernel
theorem dX11_partOf_81 : decode cX11_partOf 81 = .ok (.iadd, 1) := by decide +kernel
theorem dX11_partOf_82 : decode cX11_partOf 82 = .ok (.iaload, 1) := by decide +kernel
theorem dX11_partOf_83 : decode cX11_partOf 83 = .ok (.istore_n 3, 1) := by decide +kernel
theorem dX11_partOf_84 : decode cX11_partOf 84 = .ok (.aload_n 0, 1) := by decide +kernel
theorem dX11_partOf_85 : decode cX11_partOf 85 = .ok (.dup, 1) := by decide +kernel
theorem dX11_partOf_86 : decode cX11_partOf 86 = .ok (.getfield 265, 3) := by decide +kernel
theorem dX11_partOf_89 : decode cX11_partOf 89 = .ok (.iconst 1, 1) := by decide +kernel
theorem dX11_partOf_90 : decode cX11_partOf 90 = .ok (.iadd, 1) := by decide +kernel
theorem dX11_partOf_91 : decode cX11_partOf 91 = .ok (.putfield 265, 3) := by decide +kernel
theorem dX11_partOf_94 : decode cX11_partOf 94 = .ok (.iload_n 1, 1) := by decide +kernel
theorem dX11_partOf_95 : decode cX11_partOf 95 = .ok (.ifCond .eq 10, 3) := by decide +kernel
theorem dX11_partOf_98 : decode cX11_partOf 98 = .ok (.aload_n 0, 1) := by decide +kernel
theorem dX11_partOf_99 : decode cX11_partOf 99 = .ok (.getfield 275, 3) := by decide +kernel
theorem dX11_partOf_102 : decode cX11_partOf 102 = .ok (.ifCond .eq 5, 3) := by decide +kernel
theorem dX11_partOf_105 : decode cX11_partOf 105 = .ok (.lconst 0, 1) := by decide +kernel
theorem dX11_partOf_106 : decode cX11_partOf 106 = .ok (.lreturn, 1) := by decide +kernel
theorem dX11_partOf_107 : decode cX11_partOf 107 = .ok (.iload_n 2, 1) := by decide +kernel
theorem dX11_partOf_108 : decode cX11_partOf 108 = .ok (.bipush 50, 2) := by decide +kernel
theorem dX11_partOf_110 : decode cX11_partOf 110 = .ok (.if_icmp .ne 20, 3) := by decide +kernel
theorem dX11_partOf_113 : decode cX11_partOf 113 = .ok (.aload_n 0, 1) := by decide +kernel
theorem dX11_partOf_114 : decode cX11_partOf 114 = .ok (.getfield 28, 3) := by decide +kernel
theorem dX11_partOf_117 : decode cX11_partOf 117 = .ok (.sipush 2856, 3) := by decide +kernel
theorem dX11_partOf_120 : decode cX11_partOf 120 = .ok (.aload_n 0, 1) := by decide +kernel
theorem dX11_partOf_121 : decode cX11_partOf 121 = .ok (.getfield 265, 3) := by decide +kernel
theorem dX11_partOf_124 : decode cX11_partOf 124 = .ok (.iadd, 1) := by decide +kernel
theorem dX11_partOf_125 : decode cX11_partOf 125 = .ok (.iconst 1, 1) := by decide +kernel
theorem dX11_partOf_126 : decode cX11_partOf 126 = .ok (.isub, 1) := by decide +kernel
theorem dX11_partOf_127 : decode cX11_partOf 127 = .ok (.iaload, 1) := by decide +kernel
theorem dX11_partOf_128 : decode cX11_partOf 128 = .ok (.i2l, 1) := by decide +kernel
theorem dX11_partOf_129 : decode cX11_partOf 129 = .ok (.lreturn, 1) := by decide +kernel
theorem dX11_partOf_130 : decode cX11_partOf 130 = .ok (.aload_n 0, 1) := by decide +kernel
theorem dX11_partOf_131 : decode cX11_partOf 131 = .ok (.getfield 295, 3) := by decide +kernel
theorem dX11_partOf_134 : decode cX11_partOf 134 = .ok (.ifCond .eq 13, 3) := by decide +kernel
theorem dX11_partOf_137 : decode cX11_partOf 137 = .ok (.aload_n 0, 1) := by decide +kernel
theorem dX11_partOf_138 : decode cX11_partOf 138 = .ok (.iload_n 2, 1) := by decide +kernel
theorem dX11_partOf_139 : decode cX11_partOf 139 = .ok (.iload_n 3, 1) := by decide +kernel
theorem dX11_partOf_140 : decode cX11_partOf 140 = .ok (.invokevirtual 298, 3) := by decide +kernel
theorem dX11_partOf_143 : decode cX11_partOf 143 = .ok (.i2l, 1) := by decide +kernel
theorem dX11_partOf_144 : decode cX11_partOf 144 = .ok (.goto 13, 3) := by decide +kernel
theorem dX11_partOf_147 : decode cX11_partOf 147 = .ok (.aload_n 0, 1) := by decide +kernel
theorem dX11_partOf_148 : decode cX11_partOf 148 = .ok (.getfield 63, 3) := by decide +kernel
theorem dX11_partOf_151 : decode cX11_partOf 151 = .ok (.iload_n 2, 1) := by decide +kernel
theorem dX11_partOf_152 : decode cX11_partOf 152 = .ok (.bipush 8, 2) := by decide +kernel
theorem dX11_partOf_154 : decode cX11_partOf 154 = .ok (.isub, 1) := by decide +kernel
theorem dX11_partOf_155 : decode cX11_partOf 155 = .ok (.iaload, 1) := by decide +kernel
theorem dX11_partOf_156 : decode cX11_partOf 156 = .ok (.i2l, 1) := by decide +kernel
theorem dX11_partOf_157 : decode cX11_partOf 157 = .ok (.lreturn, 1) := by decide +kernel
theorem dX11_orderValue_0 : decode cX11_orderValue 0 = .ok (.iload_n 1, 1) := by decide +kernel
theorem dX11_orderValue_1 : decode cX11_orderValue 1 = .ok (.tableswitch 81 14 20 #[43, 58, 66, 71, 76, 81, 52], 43) := by decide +kernel
theorem dX11_orderValue_44 : decode cX11_orderValue 44 = .ok (.aload_n 0, 1) := by decide +kernel
theorem dX11_orderValue_45 : decode cX11_orderValue 45 = .ok (.getfield 28, 3) := by decide +kernel
theorem dX11_orderValue_48 : decode cX11_orderValue 48 = .ok (.iconst 0, 1) := by decide +kernel
theorem dX11_orderValue_49 : decode cX11_orderValue 49 = .ok (.iload_n 2, 1) := by decide +kernel
theorem dX11_orderValue_50 : decode cX11_orderValue 50 = .ok (.iadd, 1) := by decide +kernel
theorem dX11_orderValue_51 : decode cX11_orderValue 51 = .ok (.iaload, 1) := by decide +kernel
theorem dX11_orderValue_52 : decode cX11_orderValue 52 = .ok (.ireturn, 1) := by decide +kernel
theorem dX11_orderValue_53 : decode cX11_orderValue 53 = .ok (.aload_n 0, 1) := by decide +kernel
theorem dX11_orderValue_54 : decode cX11_orderValue 54 = .ok (.iload_n 2, 1) := by decide +kernel
theorem dX11_orderValue_55 : decode cX11_orderValue 55 = .ok (.invokevirtual 122, 3) := by decide +kernel
theorem dX11_orderValue_58 : decode cX11_orderValue 58 = .ok (.ireturn, 1) := by decide +kernel
theorem dX11_orderValue_59 : decode cX11_orderValue 59 = .ok (.aload_n 0, 1) := by decide +kernel
theorem dX11_orderValue_60 : decode cX11_orderValue 60 = .ok (.getfield 28, 3) := by decide +kernel
theorem dX11_orderValue_63 : decode cX11_orderValue 63 = .ok (.bipush 24, 2) := by decide +kernel
theorem dX11_orderValue_65 : decode cX11_orderValue 65 = .ok (.iaload, 1) := by decide +kernel
theorem dX11_orderValue_66 : decode cX11_orderValue 66 = .ok (.ireturn, 1) := by decide +kernel
theorem dX11_orderValue_67 : decode cX11_orderValue 67 = .ok (.aload_n 0, 1) := by decide +kernel
theorem dX11_orderValue_68 : decode cX11_orderValue 68 = .ok (.getfield 301, 3) := by decide +kernel
theorem dX11_orderValue_71 : decode cX11_orderValue 71 = .ok (.ireturn, 1) := by decide +kernel
theorem dX11_orderValue_72 : decode cX11_orderValue 72 = .ok (.aload_n 0, 1) := by decide +kernel
theorem dX11_orderValue_73 : decode cX11_orderValue 73 = .ok (.getfield 304, 3) := by decide +kernel
theorem dX11_orderValue_76 : decode cX11_orderValue 76 = .ok (.ireturn, 1) := by decide +kernel
theorem dX11_orderValue_77 : decode cX11_orderValue 77 = .ok (.aload_n 0, 1) := by decide +kernel
theorem dX11_orderValue_78 : decode cX11_orderValue 78 = .ok (.getfield 307, 3) := by decide +kernel
theorem dX11_orderValue_81 : decode cX11_orderValue 81 = .ok (.ireturn, 1) := by decide +kernel
theorem dX11_orderValue_82 : decode cX11_orderValue 82 = .ok (.aload_n 0, 1) := by decide +kernel
theorem dX11_orderValue_83 : decode cX11_orderValue 83 = .ok (.invokevirtual 310, 3) := by decide +kernel
theorem dX11_orderValue_86 : decode cX11_orderValue 86 = .ok (.ireturn, 1) := by decide +kernel
theorem dX11_testOf_0 : decode cX11_testOf 0 = .ok (.aload_n 0, 1) := by decide +kernel
theorem dX11_testOf_1 : decode cX11_testOf 1 = .ok (.iload_n 1, 1) := by decide +kernel
theorem dX11_testOf_2 : decode cX11_testOf 2 = .ok (.invokevirtual 313, 3) := by decide +kernel
theorem dX11_testOf_5 : decode cX11_testOf 5 = .ok (.istore_n 2, 1) := by decide +kernel
theorem dX11_testOf_6 : decode cX11_testOf 6 = .ok (.aload_n 0, 1) := by decide +kernel
theorem dX11_testOf_7 : decode cX11_testOf 7 = .ok (.iconst 5, 1) := by decide +kernel
theorem dX11_testOf_8 : decode cX11_testOf 8 = .ok (.invokevirtual 289, 3) := by decide +kernel
theorem dX11_testOf_11 : decode cX11_testOf 11 = .ok (.ifCond .eq 38, 3) := by decide +kernel
theorem dX11_testOf_14 : decode cX11_testOf 14 = .ok (.aload_n 0, 1) := by decide +kernel
theorem dX11_testOf_15 : decode cX11_testOf 15 = .ok (.iload_n 1, 1) := by decide +kernel
theorem dX11_testOf_16 : decode cX11_testOf 16 = .ok (.ifCond .eq 11, 3) := by decide +kernel
theorem dX11_testOf_19 : decode cX11_testOf 19 = .ok (.iload_n 2, 1) := by decide +kernel
theorem dX11_testOf_20 : decode cX11_testOf 20 = .ok (.ifCond .ne 7, 3) := by decide +kernel
theorem dX11_testOf_23 : decode cX11_testOf 23 = .ok (.iconst 1, 1) := by decide +kernel
theorem dX11_testOf_24 : decode cX11_testOf 24 = .ok (.goto 4, 3) := by decide +kernel
theorem dX11_testOf_27 : decode cX11_testOf 27 = .ok (.iconst 0, 1) := by decide +kernel
theorem dX11_testOf_28 : decode cX11_testOf 28 = .ok (.invokevirtual 313, 3) := by decide +kernel
theorem dX11_testOf_31 : decode cX11_testOf 31 = .ok (.istore_n 3, 1) := by decide +kernel
theorem dX11_testOf_32 : decode cX11_testOf 32 = .ok (.iload_n 2, 1) := by decide +kernel
theorem dX11_testOf_33 : decode cX11_testOf 33 = .ok (.ifCond .ne 7, 3) := by decide +kernel
theorem dX11_testOf_36 : decode cX11_testOf 36 = .ok (.iload_n 3, 1) := by decide +kernel
theorem dX11_testOf_37 : decode cX11_testOf 37 = .ok (.ifCond .eq 7, 3) := by decide +kernel
theorem dX11_testOf_40 : decode cX11_testOf 40 = .ok (.iconst 1, 1) := by decide +kernel
theorem dX11_testOf_41 : decode cX11_testOf 41 = .ok (.goto 4, 3) := by decide +kernel
theorem dX11_testOf_44 : decode cX11_testOf 44 = .ok (.iconst 0, 1) := by decide +kernel
theorem dX11_testOf_45 : decode cX11_testOf 45 = .ok (.istore_n 2, 1) := by decide +kernel
theorem dX11_testOf_46 : decode cX11_testOf 46 = .ok (.goto (-40), 3) := by decide +kernel
theorem dX11_testOf_49 : decode cX11_testOf 49 = .ok (.iload_n 2, 1) := by decide +kernel
theorem dX11_testOf_50 : decode cX11_testOf 50 = .ok (.ireturn, 1) := by decide +kernel
theorem dX11_bothOf_0 : decode cX11_bothOf 0 = .ok (.aload_n 0, 1) := by decide +kernel
theorem dX11_bothOf_1 : decode cX11_bothOf 1 = .ok (.iload_n 1, 1) := by decide +kernel
theorem dX11_bothOf_2 : decode cX11_bothOf 2 = .ok (.invokevirtual 316, 3) := by decide +kernel
theorem dX11_bothOf_5 : decode cX11_bothOf 5 = .ok (.istore_n 2, 1) := by decide +kernel
theorem dX11_bothOf_6 : decode cX11_bothOf 6 = .ok (.aload_n 0, 1) := by decide +kernel
theorem dX11_bothOf_7 : decode cX11_bothOf 7 = .ok (.bipush 6, 2) := by decide +kernel
theorem dX11_bothOf_9 : decode cX11_bothOf 9 = .ok (.invokevirtual 289, 3) := by decide +kernel
theorem dX11_bothOf_12 : decode cX11_bothOf 12 = .ok (.ifCond .eq 38, 3) := by decide +kernel
theorem dX11_bothOf_15 : decode cX11_bothOf 15 = .ok (.aload_n 0, 1) := by decide +kernel
theorem dX11_bothOf_16 : decode cX11_bothOf 16 = .ok (.iload_n 1, 1) := by decide +kernel
theorem dX11_bothOf_17 : decode cX11_bothOf 17 = .ok (.ifCond .eq 11, 3) := by decide +kernel
theorem dX11_bothOf_20 : decode cX11_bothOf 20 = .ok (.iload_n 2, 1) := by decide +kernel
theorem dX11_bothOf_21 : decode cX11_bothOf 21 = .ok (.ifCond .eq 7, 3) := by decide +kernel
theorem dX11_bothOf_24 : decode cX11_bothOf 24 = .ok (.iconst 1, 1) := by decide +kernel
theorem dX11_bothOf_25 : decode cX11_bothOf 25 = .ok (.goto 4, 3) := by decide +kernel
theorem dX11_bothOf_28 : decode cX11_bothOf 28 = .ok (.iconst 0, 1) := by decide +kernel
theorem dX11_bothOf_29 : decode cX11_bothOf 29 = .ok (.invokevirtual 316, 3) := by decide +kernel
theorem dX11_bothOf_32 : decode cX11_bothOf 32 = .ok (.istore_n 3, 1) := by decide +kernel
theorem dX11_bothOf_33 : decode cX11_bothOf 33 = .ok (.iload_n 2, 1) := by decide +kernel
theorem dX11_bothOf_34 : decode cX11_bothOf 34 = .ok (.ifCond .eq 11, 3) := by decide +kernel
theorem dX11_bothOf_37 : decode cX11_bothOf 37 = .ok (.iload_n 3, 1) := by decide +kernel
theorem dX11_bothOf_38 : decode cX11_bothOf 38 = .ok (.ifCond .eq 7, 3) := by decide +kernel
theorem dX11_bothOf_41 : decode cX11_bothOf 41 = .ok (.iconst 1, 1) := by decide +kernel
theorem dX11_bothOf_42 : decode cX11_bothOf 42 = .ok (.goto 4, 3) := by decide +kernel
theorem dX11_bothOf_45 : decode cX11_bothOf 45 = .ok (.iconst 0, 1) := by decide +kernel
theorem dX11_bothOf_46 : decode cX11_bothOf 46 = .ok (.istore_n 2, 1) := by decide +kernel
theorem dX11_bothOf_47 : decode cX11_bothOf 47 = .ok (.goto (-41), 3) := by decide +kernel
theorem dX11_bothOf_50 : decode cX11_bothOf 50 = .ok (.iload_n 2, 1) := by decide +kernel
theorem dX11_bothOf_51 : decode cX11_bothOf 51 = .ok (.ireturn, 1) := by decide +kernel
theorem dX11_plainOf_0 : decode cX11_plainOf 0 = .ok (.iconst 0, 1) := by decide +kernel
theorem dX11_plainOf_1 : decode cX11_plainOf 1 = .ok (.istore_n 2, 1) := by decide +kernel
theorem dX11_plainOf_2 : decode cX11_plainOf 2 = .ok (.aload_n 0, 1) := by decide +kernel
theorem dX11_plainOf_3 : decode cX11_plainOf 3 = .ok (.bipush 7, 2) := by decide +kernel
theorem dX11_plainOf_5 : decode cX11_plainOf 5 = .ok (.invokevirtual 289, 3) := by decide +kernel
theorem dX11_plainOf_8 : decode cX11_plainOf 8 = .ok (.ifCond .eq 16, 3) := by decide +kernel
theorem dX11_plainOf_11 : decode cX11_plainOf 11 = .ok (.iload_n 2, 1) := by decide +kernel
theorem dX11_plainOf_12 : decode cX11_plainOf 12 = .ok (.ifCond .ne 7, 3) := by decide +kernel
theorem dX11_plainOf_15 : decode cX11_plainOf 15 = .ok (.iconst 1, 1) := by decide +kernel
theorem dX11_plainOf_16 : decode cX11_plainOf 16 = .ok (.goto 4, 3) := by decide +kernel
theorem dX11_plainOf_19 : decode cX11_plainOf 19 = .ok (.iconst 0, 1) := by decide +kernel
theorem dX11_plainOf_20 : decode cX11_plainOf 20 = .ok (.istore_n 2, 1) := by decide +kernel
theorem dX11_plainOf_21 : decode cX11_plainOf 21 = .ok (.goto (-19), 3) := by decide +kernel
theorem dX11_plainOf_24 : decode cX11_plainOf 24 = .ok (.aload_n 0, 1) := by decide +kernel
theorem dX11_plainOf_25 : decode cX11_plainOf 25 = .ok (.iload_n 1, 1) := by decide +kernel
theorem dX11_plainOf_26 : decode cX11_plainOf 26 = .ok (.invokevirtual 319, 3) := by decide +kernel
theorem dX11_plainOf_29 : decode cX11_plainOf 29 = .ok (.iload_n 2, 1) := by decide +kernel
theorem dX11_plainOf_30 : decode cX11_plainOf 30 = .ok (.if_icmp .eq 7, 3) := by decide +kernel
theorem dX11_plainOf_33 : decode cX11_plainOf 33 = .ok (.iconst 1, 1) := by decide +kernel
theorem dX11_plainOf_34 : decode cX11_plainOf 34 = .ok (.goto 4, 3) := by decide +kernel
theorem dX11_plainOf_37 : decode cX11_plainOf 37 = .ok (.iconst 0, 1) := by decide +kernel
theorem dX11_plainOf_38 : decode cX11_plainOf 38 = .ok (.ireturn, 1) := by decide +kernel
theorem dX11_positiveOf_0 : decode cX11_positiveOf 0 = .ok (.aload_n 0, 1) := by decide +kernel
theorem dX11_positiveOf_1 : decode cX11_positiveOf 1 = .ok (.bipush 40, 2) := by decide +kernel
theorem dX11_positiveOf_3 : decode cX11_positiveOf 3 = .ok (.invokestatic 224, 3) := by decide +kernel
theorem dX11_positiveOf_6 : decode cX11_positiveOf 6 = .ok (.invokevirtual 289, 3) := by decide +kernel
theorem dX11_positiveOf_9 : decode cX11_positiveOf 9 = .ok (.ifCond .eq 21, 3) := by decide +kernel
theorem dX11_positiveOf_12 : decode cX11_positiveOf 12 = .ok (.aload_n 0, 1) := by decide +kernel
theorem dX11_positiveOf_13 : decode cX11_positiveOf 13 = .ok (.iload_n 1, 1) := by decide +kernel
theorem dX11_positiveOf_14 : decode cX11_positiveOf 14 = .ok (.invokevirtual 322, 3) := by decide +kernel
theorem dX11_positiveOf_17 : decode cX11_positiveOf 17 = .ok (.istore_n 2, 1) := by decide +kernel
theorem dX11_positiveOf_18 : decode cX11_positiveOf 18 = .ok (.aload_n 0, 1) := by decide +kernel
theorem dX11_positiveOf_19 : decode cX11_positiveOf 19 = .ok (.dup, 1) := by decide +kernel
theorem dX11_positiveOf_20 : decode cX11_positiveOf 20 = .ok (.getfield 265, 3) := by decide +kernel
theorem dX11_positiveOf_23 : decode cX11_positiveOf 23 = .ok (.iconst 1, 1) := by decide +kernel
theorem dX11_positiveOf_24 : decode cX11_positiveOf 24 = .ok (.iadd, 1) := by decide +kernel
theorem dX11_positiveOf_25 : decode cX11_positiveOf 25 = .ok (.putfield 265, 3) := by decide +kernel
theorem dX11_positiveOf_28 : decode cX11_positiveOf 28 = .ok (.iload_n 2, 1) := by decide +kernel
theorem dX11_positiveOf_29 : decode cX11_positiveOf 29 = .ok (.ireturn, 1) := by decide +kernel
theorem dX11_positiveOf_30 : decode cX11_positiveOf 30 = .ok (.aload_n 0, 1) := by decide +kernel
theorem dX11_positiveOf_31 : decode cX11_positiveOf 31 = .ok (.iload_n 1, 1) := by decide +kernel
theorem dX11_positiveOf_32 : decode cX11_positiveOf 32 = .ok (.invokevirtual 292, 3) := by decide +kernel
theorem dX11_positiveOf_35 : decode cX11_positiveOf 35 = .ok (.lstore_n 2, 1) := by decide +kernel
theorem dX11_positiveOf_36 : decode cX11_positiveOf 36 = .ok (.aload_n 0, 1) := by decide +kernel
theorem dX11_positiveOf_37 : decode cX11_positiveOf 37 = .ok (.aload_n 0, 1) := by decide +kernel
theorem dX11_positiveOf_38 : decode cX11_positiveOf 38 = .ok (.getfield 265, 3) := by decide +kernel
theorem dX11_positiveOf_41 : decode cX11_positiveOf 41 = .ok (.invokevirtual 268, 3) := by decide +kernel
theorem dX11_positiveOf_44 : decode cX11_positiveOf 44 = .ok (.istore 4, 2) := by decide +kernel
theorem dX11_positiveOf_46 : decode cX11_positiveOf 46 = .ok (.aload_n 0, 1) := by decide +kernel
theorem dX11_positiveOf_47 : decode cX11_positiveOf 47 = .ok (.dup, 1) := by decide +kernel
theorem dX11_positiveOf_48 : decode cX11_positiveOf 48 = .ok (.getfield 265, 3) := by decide +kernel
theorem dX11_positiveOf_51 : decode cX11_positiveOf 51 = .ok (.iconst 1, 1) := by decide +kernel
theorem dX11_positiveOf_52 : decode cX11_positiveOf 52 = .ok (.iadd, 1) := by decide +kernel
theorem dX11_positiveOf_53 : decode cX11_positiveOf 53 = .ok (.putfield 265, 3) := by decide +kernel
theorem dX11_positiveOf_56 : decode cX11_positiveOf 56 = .ok (.aload_n 0, 1) := by decide +kernel
theorem dX11_positiveOf_57 : decode cX11_positiveOf 57 = .ok (.iload_n 1, 1) := by decide +kernel
theorem dX11_positiveOf_58 : decode cX11_positiveOf 58 = .ok (.invokevirtual 292, 3) := by decide +kernel
theorem dX11_positiveOf_61 : decode cX11_positiveOf 61 = .ok (.lstore 5, 2) := by decide +kernel
theorem dX11_positiveOf_63 : decode cX11_positiveOf 63 = .ok (.iload_n 1, 1) := by decide +kernel
theorem dX11_positiveOf_64 : decode cX11_positiveOf 64 = .ok (.ifCond .eq 61, 3) := by decide +kernel
theorem dX11_positiveOf_67 : decode cX11_positiveOf 67 = .ok (.aload_n 0, 1) := by decide +kernel
theorem dX11_positiveOf_68 : decode cX11_positiveOf 68 = .ok (.getfield 275, 3) := by decide +kernel
theorem dX11_positiveOf_71 : decode cX11_positiveOf 71 = .ok (.ifCond .ne 54, 3) := by decide +kernel
theorem dX11_positiveOf_74 : decode cX11_positiveOf 74 = .ok (.iload 4, 2) := by decide +kernel
theorem dX11_positiveOf_76 : decode cX11_positiveOf 76 = .ok (.bipush 60, 2) := by decide +kernel
theorem dX11_positiveOf_78 : decode cX11_positiveOf 78 = .ok (.invokestatic 224, 3) := by decide +kernel
theorem dX11_positiveOf_81 : decode cX11_positiveOf 81 = .ok (.if_icmp .ne 13, 3) := by decide +kernel
theorem dX11_positiveOf_84 : decode cX11_positiveOf 84 = .ok (.lload_n 2, 1) := by decide +kernel
theorem dX11_positiveOf_85 : decode cX11_positiveOf 85 = .ok (.lload 5, 2) := by decide +kernel
theorem dX11_positiveOf_87 : decode cX11_positiveOf 87 = .ok (.lcmp, 1) := by decide +kernel
theorem dX11_positiveOf_88 : decode cX11_positiveOf 88 = .ok (.ifCond .ge 37, 3) := by decide +kernel
theorem dX11_positiveOf_91 : decode cX11_positiveOf 91 = .ok (.goto 30, 3) := by decide +kernel
theorem dX11_positiveOf_94 : decode cX11_positiveOf 94 = .ok (.iload 4, 2) := by decide +kernel
theorem dX11_positiveOf_96 : decode cX11_positiveOf 96 = .ok (.bipush 62, 2) := by decide +kernel
theorem dX11_positiveOf_98 : decode cX11_positiveOf 98 = .ok (.invokestatic 224, 3) := by decide +kernel
theorem dX11_positiveOf_101 : decode cX11_positiveOf 101 = .ok (.if_icmp .ne 13, 3) := by decide +kernel
theorem dX11_positiveOf_104 : decode cX11_positiveOf 104 = .ok (.lload_n 2, 1) := by decide +kernel
theorem dX11_positiveOf_105 : decode cX11_positiveOf 105 = .ok (.lload 5, 2) := by decide +kernel
theorem dX11_positiveOf_107 : decode cX11_positiveOf 107 = .ok (.lcmp, 1) := by decide +kernel
theorem dX11_positiveOf_108 : decode cX11_positiveOf 108 = .ok (.ifCond .le 17, 3) := by decide +kernel
theorem dX11_positiveOf_111 : decode cX11_positiveOf 111 = .ok (.goto 10, 3) := by decide +kernel
theorem dX11_positiveOf_114 : decode cX11_positiveOf 114 = .ok (.lload_n 2, 1) := by decide +kernel
theorem dX11_positiveOf_115 : decode cX11_positiveOf 115 = .ok (.lload 5, 2) := by decide +kernel
theorem dX11_positiveOf_117 : decode cX11_positiveOf 117 = .ok (.lcmp, 1) := by decide +kernel
theorem dX11_positiveOf_118 : decode cX11_positiveOf 118 = .ok (.ifCond .ne 7, 3) := by decide +kernel
theorem dX11_positiveOf_121 : decode cX11_positiveOf 121 = .ok (.iconst 1, 1) := by decide +kernel
theorem dX11_positiveOf_122 : decode cX11_positiveOf 122 = .ok (.goto 4, 3) := by decide +kernel
theorem dX11_positiveOf_125 : decode cX11_positiveOf 125 = .ok (.iconst 0, 1) := by decide +kernel
theorem dX11_positiveOf_126 : decode cX11_positiveOf 126 = .ok (.ireturn, 1) := by decide +kernel
theorem dX11_setsAsked_0 : decode cX11_setsAsked 0 = .ok (.aload_n 0, 1) := by decide +kernel
theorem dX11_setsAsked_1 : decode cX11_setsAsked 1 = .ok (.getfield 63, 3) := by decide +kernel
theorem dX11_setsAsked_4 : decode cX11_setsAsked 4 = .ok (.iconst 0, 1) := by decide +kernel
theorem dX11_setsAsked_5 : decode cX11_setsAsked 5 = .ok (.iload_n 1, 1) := by decide +kernel
theorem dX11_setsAsked_6 : decode cX11_setsAsked 6 = .ok (.iastore, 1) := by decide +kernel
theorem dX11_setsAsked_7 : decode cX11_setsAsked 7 = .ok (.aload_n 0, 1) := by decide +kernel
theorem dX11_setsAsked_8 : decode cX11_setsAsked 8 = .ok (.getfield 63, 3) := by decide +kernel
theorem dX11_setsAsked_11 : decode cX11_setsAsked 11 = .ok (.iconst 1, 1) := by decide +kernel
theorem dX11_setsAsked_12 : decode cX11_setsAsked 12 = .ok (.iload_n 2, 1) := by decide +kernel
theorem dX11_setsAsked_13 : decode cX11_setsAsked 13 = .ok (.iastore, 1) := by decide +kernel
theorem dX11_setsAsked_14 : decode cX11_setsAsked 14 = .ok (.aload_n 0, 1) := by decide +kernel
theorem dX11_setsAsked_15 : decode cX11_setsAsked 15 = .ok (.getfield 63, 3) := by decide +kernel
theorem dX11_setsAsked_18 : decode cX11_setsAsked 18 = .ok (.iconst 2, 1) := by decide +kernel
theorem dX11_setsAsked_19 : decode cX11_setsAsked 19 = .ok (.iload_n 3, 1) := by decide +kernel
theorem dX11_setsAsked_20 : decode cX11_setsAsked 20 = .ok (.iastore, 1) := by decide +kernel
theorem dX11_setsAsked_21 : decode cX11_setsAsked 21 = .ok (.aload_n 0, 1) := by decide +kernel
theorem dX11_setsAsked_22 : decode cX11_setsAsked 22 = .ok (.getfield 63, 3) := by decide +kernel
theorem dX11_setsAsked_25 : decode cX11_setsAsked 25 = .ok (.iconst 3, 1) := by decide +kernel
theorem dX11_setsAsked_26 : decode cX11_setsAsked 26 = .ok (.aload_n 0, 1) := by decide +kernel
theorem dX11_setsAsked_27 : decode cX11_setsAsked 27 = .ok (.getfield 28, 3) := by decide +kernel
theorem dX11_setsAsked_30 : decode cX11_setsAsked 30 = .ok (.bipush 25, 2) := by decide +kernel
theorem dX11_setsAsked_32 : decode cX11_setsAsked 32 = .ok (.iload_n 1, 1) := by decide +kernel
theorem dX11_setsAsked_33 : decode cX11_setsAsked 33 = .ok (.iadd, 1) := by decide +kernel
theorem dX11_setsAsked_34 : decode cX11_setsAsked 34 = .ok (.iaload, 1) := by decide +kernel
theorem dX11_setsAsked_35 : decode cX11_setsAsked 35 = .ok (.iastore, 1) := by decide +kernel
theorem dX11_setsAsked_36 : decode cX11_setsAsked 36 = .ok (.aload_n 0, 1) := by decide +kernel
theorem dX11_setsAsked_37 : decode cX11_setsAsked 37 = .ok (.getfield 63, 3) := by decide +kernel
theorem dX11_setsAsked_40 : decode cX11_setsAsked 40 = .ok (.iconst 4, 1) := by decide +kernel
theorem dX11_setsAsked_41 : decode cX11_setsAsked 41 = .ok (.aload_n 0, 1) := by decide +kernel
theorem dX11_setsAsked_42 : decode cX11_setsAsked 42 = .ok (.getfield 28, 3) := by decide +kernel
theorem dX11_setsAsked_45 : decode cX11_setsAsked 45 = .ok (.bipush 31, 2) := by decide +kernel
theorem dX11_setsAsked_47 : decode cX11_setsAsked 47 = .ok (.iload_n 1, 1) := by decide +kernel
theorem dX11_setsAsked_48 : decode cX11_setsAsked 48 = .ok (.iadd, 1) := by decide +kernel
theorem dX11_setsAsked_49 : decode cX11_setsAsked 49 = .ok (.iaload, 1) := by decide +kernel
theorem dX11_setsAsked_50 : decode cX11_setsAsked 50 = .ok (.iastore, 1) := by decide +kernel
theorem dX11_setsAsked_51 : decode cX11_setsAsked 51 = .ok (.aload_n 0, 1) := by decide +kernel
theorem dX11_setsAsked_52 : decode cX11_setsAsked 52 = .ok (.getfield 63, 3) := by decide +kernel
theorem dX11_setsAsked_55 : decode cX11_setsAsked 55 = .ok (.iconst 5, 1) := by decide +kernel
theorem dX11_setsAsked_56 : decode cX11_setsAsked 56 = .ok (.aload_n 0, 1) := by decide +kernel
theorem dX11_setsAsked_57 : decode cX11_setsAsked 57 = .ok (.getfield 28, 3) := by decide +kernel
theorem dX11_setsAsked_60 : decode cX11_setsAsked 60 = .ok (.bipush 44, 2) := by decide +kernel
theorem dX11_setsAsked_62 : decode cX11_setsAsked 62 = .ok (.iaload, 1) := by decide +kernel
theorem dX11_setsAsked_63 : decode cX11_setsAsked 63 = .ok (.iastore, 1) := by decide +kernel
theorem dX11_setsAsked_64 : decode cX11_setsAsked 64 = .ok (.aload_n 0, 1) := by decide +kernel
theorem dX11_setsAsked_65 : decode cX11_setsAsked 65 = .ok (.getfield 63, 3) := by decide +kernel
theorem dX11_setsAsked_68 : decode cX11_setsAsked 68 = .ok (.bipush 6, 2) := by decide +kernel
theorem dX11_setsAsked_70 : decode cX11_setsAsked 70 = .ok (.aload_n 0, 1) := by decide +kernel
theorem dX11_setsAsked_71 : decode cX11_setsAsked 71 = .ok (.getfield 28, 3) := by decide +kernel
theorem dX11_setsAsked_74 : decode cX11_setsAsked 74 = .ok (.iconst 0, 1) := by decide +kernel
theorem dX11_setsAsked_75 : decode cX11_setsAsked 75 = .ok (.iload_n 2, 1) := by decide +kernel
theorem dX11_setsAsked_76 : decode cX11_setsAsked 76 = .ok (.iadd, 1) := by decide +kernel
theorem dX11_setsAsked_77 : decode cX11_setsAsked 77 = .ok (.iaload, 1) := by decide +kernel
theorem dX11_setsAsked_78 : decode cX11_setsAsked 78 = .ok (.iastore, 1) := by decide +kernel
theorem dX11_setsAsked_79 : decode cX11_setsAsked 79 = .ok (.aload_n 0, 1) := by decide +kernel
theorem dX11_setsAsked_80 : decode cX11_setsAsked 80 = .ok (.getfield 63, 3) := by decide +kernel
theorem dX11_setsAsked_83 : decode cX11_setsAsked 83 = .ok (.bipush 7, 2) := by decide +kernel
theorem dX11_setsAsked_85 : decode cX11_setsAsked 85 = .ok (.aload_n 0, 1) := by decide +kernel
theorem dX11_setsAsked_86 : decode cX11_setsAsked 86 = .ok (.getfield 28, 3) := by decide +kernel
theorem dX11_setsAsked_89 : decode cX11_setsAsked 89 = .ok (.bipush 24, 2) := by decide +kernel
theorem dX11_setsAsked_91 : decode cX11_setsAsked 91 = .ok (.iaload, 1) := by decide +kernel
theorem dX11_setsAsked_92 : decode cX11_setsAsked 92 = .ok (.iastore, 1) := by decide +kernel
theorem dX11_setsAsked_93 : decode cX11_setsAsked 93 = .ok (.return_, 1) := by decide +kernel
theorem dX11_tells_0 : decode cX11_tells 0 = .ok (.aload_n 0, 1) := by decide +kernel
theorem dX11_tells_1 : decode cX11_tells 1 = .ok (.getfield 28, 3) := by decide +kernel
theorem dX11_tells_4 : decode cX11_tells 4 = .ok (.bipush 48, 2) := by decide +kernel
theorem dX11_tells_6 : decode cX11_tells 6 = .ok (.iaload, 1) := by decide +kernel
theorem dX11_tells_7 : decode cX11_tells 7 = .ok (.iconst (-1), 1) := by decide +kernel
theorem dX11_tells_8 : decode cX11_tells 8 = .ok (.if_icmp .ne 6, 3) := by decide +kernel
theorem dX11_tells_11 : decode cX11_tells 11 = .ok (.iload 5, 2) := by decide +kernel
theorem dX11_tells_13 : decode cX11_tells 13 = .ok (.ireturn, 1) := by decide +kernel
theorem dX11_tells_14 : decode cX11_tells 14 = .ok (.aload_n 0, 1) := by decide +kernel
theorem dX11_tells_15 : decode cX11_tells 15 = .ok (.iload_n 2, 1) := by decide +kernel
theorem dX11_tells_16 : decode cX11_tells 16 = .ok (.iload_n 3, 1) := by decide +kernel
theorem dX11_tells_17 : decode cX11_tells 17 = .ok (.iload 4, 2) := by decide +kernel
theorem dX11_tells_19 : decode cX11_tells 19 = .ok (.invokevirtual 325, 3) := by decide +kernel
theorem dX11_tells_22 : decode cX11_tells 22 = .ok (.aload_n 0, 1) := by decide +kernel
theorem dX11_tells_23 : decode cX11_tells 23 = .ok (.iconst 0, 1) := by decide +kernel
theorem dX11_tells_24 : decode cX11_tells 24 = .ok (.putfield 295, 3) := by decide +kernel
theorem dX11_tells_27 : decode cX11_tells 27 = .ok (.iload 5, 2) := by decide +kernel
theorem dX11_tells_29 : decode cX11_tells 29 = .ok (.i2l, 1) := by decide +kernel
theorem dX11_tells_30 : decode cX11_tells 30 = .ok (.lstore 6, 2) := by decide +kernel
theorem dX11_tells_32 : decode cX11_tells 32 = .ok (.aload_n 0, 1) := by decide +kernel
theorem dX11_tells_33 : decode cX11_tells 33 = .ok (.sipush 400, 3) := by decide +kernel
theorem dX11_tells_36 : decode cX11_tells 36 = .ok (.aload_n 0, 1) := by decide +kernel
theorem dX11_tells_37 : decode cX11_tells 37 = .ok (.getfield 28, 3) := by decide +kernel
theorem dX11_tells_40 : decode cX11_tells 40 = .ok (.bipush 48, 2) := by decide +kernel
theorem dX11_tells_42 : decode cX11_tells 42 = .ok (.iaload, 1) := by decide +kernel
theorem dX11_tells_43 : decode cX11_tells 43 = .ok (.imul, 1) := by decide +kernel
theorem dX11_tells_44 : decode cX11_tells 44 = .ok (.putfield 265, 3) := by decide +kernel
theorem dX11_tells_47 : decode cX11_tells 47 = .ok (.aload_n 0, 1) := by decide +kernel
theorem dX11_tells_48 : decode cX11_tells 48 = .ok (.aload_n 0, 1) := by decide +kernel
theorem dX11_tells_49 : decode cX11_tells 49 = .ok (.getfield 265, 3) := by decide +kernel
theorem dX11_tells_52 : decode cX11_tells 52 = .ok (.aload_n 0, 1) := by decide +kernel
theorem dX11_tells_53 : decode cX11_tells 53 = .ok (.getfield 28, 3) := by decide +kernel
theorem dX11_tells_56 : decode cX11_tells 56 = .ok (.bipush 49, 2) := by decide +kernel
theorem dX11_tells_58 : decode cX11_tells 58 = .ok (.aload_n 0, 1) := by decide +kernel
theorem dX11_tells_59 : decode cX11_tells 59 = .ok (.getfield 28, 3) := by decide +kernel
theorem dX11_tells_62 : decode cX11_tells 62 = .ok (.bipush 48, 2) := by decide +kernel
theorem dX11_tells_64 : decode cX11_tells 64 = .ok (.iaload, 1) := by decide +kernel
theorem dX11_tells_65 : decode cX11_tells 65 = .ok (.iadd, 1) := by decide +kernel
theorem dX11_tells_66 : decode cX11_tells 66 = .ok (.iaload, 1) := by decide +kernel
theorem dX11_tells_67 : decode cX11_tells 67 = .ok (.iadd, 1) := by decide +kernel
theorem dX11_tells_68 : decode cX11_tells 68 = .ok (.putfield 262, 3) := by decide +kernel
theorem dX11_tells_71 : decode cX11_tells 71 = .ok (.aload_n 0, 1) := by decide +kernel
theorem dX11_tells_72 : decode cX11_tells 72 = .ok (.getfield 265, 3) := by decide +kernel
theorem dX11_tells_75 : decode cX11_tells 75 = .ok (.aload_n 0, 1) := by decide +kernel
theorem dX11_tells_76 : decode cX11_tells 76 = .ok (.getfield 262, 3) := by decide +kernel
theorem dX11_tells_79 : decode cX11_tells 79 = .ok (.if_icmp .ge 145, 3) := by decide +kernel
theorem dX11_tells_82 : decode cX11_tells 82 = .ok (.aload_n 0, 1) := by decide +kernel
theorem dX11_tells_83 : decode cX11_tells 83 = .ok (.aload_n 0, 1) := by decide +kernel
theorem dX11_tells_84 : decode cX11_tells 84 = .ok (.getfield 265, 3) := by decide +kernel
theorem dX11_tells_87 : decode cX11_tells 87 = .ok (.invokevirtual 268, 3) := by decide +kernel
theorem dX11_tells_90 : decode cX11_tells 90 = .ok (.istore 8, 2) := by decide +kernel
theorem dX11_tells_92 : decode cX11_tells 92 = .ok (.aload_n 0, 1) := by decide +kernel
theorem dX11_tells_93 : decode cX11_tells 93 = .ok (.iconst 0, 1) := by decide +kernel
theorem dX11_tells_94 : decode cX11_tells 94 = .ok (.putfield 275, 3) := by decide +kernel
theorem dX11_tells_97 : decode cX11_tells 97 = .ok (.aload_n 0, 1) := by decide +kernel
theorem dX11_tells_98 : decode cX11_tells 98 = .ok (.dup, 1) := by decide +kernel
theorem dX11_tells_99 : decode cX11_tells 99 = .ok (.getfield 265, 3) := by decide +kernel
theorem dX11_tells_102 : decode cX11_tells 102 = .ok (.iconst 1, 1) := by decide +kernel
theorem dX11_tells_103 : decode cX11_tells 103 = .ok (.iadd, 1) := by decide +kernel
theorem dX11_tells_104 : decode cX11_tells 104 = .ok (.putfield 265, 3) := by decide +kernel
theorem dX11_tells_107 : decode cX11_tells 107 = .ok (.iload 8, 2) := by decide +kernel
theorem dX11_tells_109 : decode cX11_tells 109 = .ok (.iconst 1, 1) := by decide +kernel
theorem dX11_tells_110 : decode cX11_tells 110 = .ok (.if_icmp .ne 11, 3) := by decide +kernel
theorem dX11_tells_113 : decode cX11_tells 113 = .ok (.aload_n 0, 1) := by decide +kernel
theorem dX11_tells_114 : decode cX11_tells 114 = .ok (.iconst 1, 1) := by decide +kernel
theorem dX11_tells_115 : decode cX11_tells 115 = .ok (.invokevirtual 292, 3) := by decide +kernel
theorem dX11_tells_118 : decode cX11_tells 118 = .ok (.goto 4, 3) := by decide +kernel
theorem dX11_tells_121 : decode cX11_tells 121 = .ok (.lconst 1, 1) := by decide +kernel
theorem dX11_tells_122 : decode cX11_tells 122 = .ok (.lstore 9, 2) := by decide +kernel
theorem dX11_tells_124 : decode cX11_tells 124 = .ok (.aload_n 0, 1) := by decide +kernel
theorem dX11_tells_125 : decode cX11_tells 125 = .ok (.getfield 275, 3) := by decide +kernel
theorem dX11_tells_128 : decode cX11_tells 128 = .ok (.istore 11, 2) := by decide +kernel
theorem dX11_tells_130 : decode cX11_tells 130 = .ok (.aload_n 0, 1) := by decide +kernel
theorem dX11_tells_131 : decode cX11_tells 131 = .ok (.iconst 0, 1) := by decide +kernel
theorem dX11_tells_132 : decode cX11_tells 132 = .ok (.putfield 275, 3) := by decide +kernel
theorem dX11_tells_135 : decode cX11_tells 135 = .ok (.aload_n 0, 1) := by decide +kernel
theorem dX11_tells_136 : decode cX11_tells 136 = .ok (.iconst 4, 1) := by decide +kernel
theorem dX11_tells_137 : decode cX11_tells 137 = .ok (.invokevirtual 289, 3) := by decide +kernel
theorem dX11_tells_140 : decode cX11_tells 140 = .ok (.ifCond .eq 11, 3) := by decide +kernel
theorem dX11_tells_143 : decode cX11_tells 143 = .ok (.aload_n 0, 1) := by decide +kernel
theorem dX11_tells_144 : decode cX11_tells 144 = .ok (.iconst 1, 1) := by decide +kernel
theorem dX11_tells_145 : decode cX11_tells 145 = .ok (.invokevirtual 322, 3) := by decide +kernel
theorem dX11_tells_148 : decode cX11_tells 148 = .ok (.ifCond .eq 7, 3) := by decide +kernel
theorem dX11_tells_151 : decode cX11_tells 151 = .ok (.iconst 1, 1) := by decide +kernel
theorem dX11_tells_152 : decode cX11_tells 152 = .ok (.goto 4, 3) := by decide +kernel
theorem dX11_tells_155 : decode cX11_tells 155 = .ok (.iconst 0, 1) := by decide +kernel
theorem dX11_tells_156 : decode cX11_tells 156 = .ok (.istore 12, 2) := by decide +kernel
theorem dX11_tells_158 : decode cX11_tells 158 = .ok (.iload 8, 2) := by decide +kernel
theorem dX11_tells_160 : decode cX11_tells 160 = .ok (.iload_n 1, 1) := by decide +kernel
theorem dX11_tells_161 : decode cX11_tells 161 = .ok (.if_icmp .ne 50, 3) := by decide +kernel
theorem dX11_tells_164 : decode cX11_tells 164 = .ok (.iload 12, 2) := by decide +kernel
theorem dX11_tells_166 : decode cX11_tells 166 = .ok (.ifCond .eq 45, 3) := by decide +kernel
theorem dX11_tells_169 : decode cX11_tells 169 = .ok (.aload_n 0, 1) := by decide +kernel
theorem dX11_tells_170 : decode cX11_tells 170 = .ok (.getfield 275, 3) := by decide +kernel
theorem dX11_tells_173 : decode cX11_tells 173 = .ok (.ifCond .ne 38, 3) := by decide +kernel
theorem dX11_tells_176 : decode cX11_tells 176 = .ok (.iload 11, 2) := by decide +kernel
theorem dX11_tells_178 : decode cX11_tells 178 = .ok (.ifCond .ne 33, 3) := by decide +kernel
theorem dX11_tells_181 : decode cX11_tells 181 = .ok (.lload 9, 2) := by decide +kernel
theorem dX11_tells_183 : decode cX11_tells 183 = .ok (.lconst 0, 1) := by decide +kernel
theorem dX11_tells_184 : decode cX11_tells 184 = .ok (.lcmp, 1) := by decide +kernel
theorem dX11_tells_185 : decode cX11_tells 185 = .ok (.ifCond .ge 7, 3) := by decide +kernel
theorem dX11_tells_188 : decode cX11_tells 188 = .ok (.lconst 0, 1) := by decide +kernel
theorem dX11_tells_189 : decode cX11_tells 189 = .ok (.goto 20, 3) := by decide +kernel
theorem dX11_tells_192 : decode cX11_tells 192 = .ok (.lload 9, 2) := by decide +kernel
theorem dX11_tells_194 : decode cX11_tells 194 = .ok (.ldc2_w 329, 3) := by decide +kernel
theorem dX11_tells_197 : decode cX11_tells 197 = .ok (.lcmp, 1) := by decide +kernel
theorem dX11_tells_198 : decode cX11_tells 198 = .ok (.ifCond .le 9, 3) := by decide +kernel
theorem dX11_tells_201 : decode cX11_tells 201 = .ok (.ldc2_w 329, 3) := by decide +kernel
theorem dX11_tells_204 : decode cX11_tells 204 = .ok (.goto 5, 3) := by decide +kernel
theorem dX11_tells_207 : decode cX11_tells 207 = .ok (.lload 9, 2) := by decide +kernel
theorem dX11_tells_209 : decode cX11_tells 209 = .ok (.lstore 6, 2) := by decide +kernel
theorem dX11_tells_211 : decode cX11_tells 211 = .ok (.aload_n 0, 1) := by decide +kernel
theorem dX11_tells_212 : decode cX11_tells 212 = .ok (.dup, 1) := by decide +kernel
theorem dX11_tells_213 : decode cX11_tells 213 = .ok (.getfield 265, 3) := by decide +kernel
theorem dX11_tells_216 : decode cX11_tells 216 = .ok (.iconst 1, 1) := by decide +kernel
theorem dX11_tells_217 : decode cX11_tells 217 = .ok (.iadd, 1) := by decide +kernel
theorem dX11_tells_218 : decode cX11_tells 218 = .ok (.putfield 265, 3) := by decide +kernel
theorem dX11_tells_221 : decode cX11_tells 221 = .ok (.goto (-150), 3) := by decide +kernel
theorem dX11_tells_224 : decode cX11_tells 224 = .ok (.lload 6, 2) := by decide +kernel
theorem dX11_tells_226 : decode cX11_tells 226 = .ok (.l2i, 1) := by decide +kernel
theorem dX11_tells_227 : decode cX11_tells 227 = .ok (.ireturn, 1) := by decide +kernel
theorem dX11_mindedAt_0 : decode cX11_mindedAt 0 = .ok (.aload_n 0, 1) := by decide +kernel
theorem dX11_mindedAt_1 : decode cX11_mindedAt 1 = .ok (.iconst 1, 1) := by decide +kernel
theorem dX11_mindedAt_2 : decode cX11_mindedAt 2 = .ok (.iload_n 1, 1) := by decide +kernel
theorem dX11_mindedAt_3 : decode cX11_mindedAt 3 = .ok (.iload_n 2, 1) := by decide +kernel
theorem dX11_mindedAt_4 : decode cX11_mindedAt 4 = .ok (.iload_n 3, 1) := by decide +kernel
theorem dX11_mindedAt_5 : decode cX11_mindedAt 5 = .ok (.iconst 1, 1) := by decide +kernel
theorem dX11_mindedAt_6 : decode cX11_mindedAt 6 = .ok (.invokevirtual 331, 3) := by decide +kernel
theorem dX11_mindedAt_9 : decode cX11_mindedAt 9 = .ok (.ireturn, 1) := by decide +kernel
theorem dX11_canPlay_0 : decode cX11_canPlay 0 = .ok (.aload_n 0, 1) := by decide +kernel
theorem dX11_canPlay_1 : decode cX11_canPlay 1 = .ok (.getfield 28, 3) := by decide +kernel
theorem dX11_canPlay_4 : decode cX11_canPlay 4 = .ok (.iconst 0, 1) := by decide +kernel
theorem dX11_canPlay_5 : decode cX11_canPlay 5 = .ok (.iload_n 2, 1) := by decide +kernel
theorem dX11_canPlay_6 : decode cX11_canPlay 6 = .ok (.iadd, 1) := by decide +kernel
theorem dX11_canPlay_7 : decode cX11_canPlay 7 = .ok (.iaload, 1) := by decide +kernel
theorem dX11_canPlay_8 : decode cX11_canPlay 8 = .ok (.iload_n 1, 1) := by decide +kernel
theorem dX11_canPlay_9 : decode cX11_canPlay 9 = .ok (.if_icmp .eq 16, 3) := by decide +kernel
theorem dX11_canPlay_12 : decode cX11_canPlay 12 = .ok (.aload_n 0, 1) := by decide +kernel
theorem dX11_canPlay_13 : decode cX11_canPlay 13 = .ok (.iconst 2, 1) := by decide +kernel
theorem dX11_canPlay_14 : decode cX11_canPlay 14 = .ok (.iload_n 1, 1) := by decide +kernel
theorem dX11_canPlay_15 : decode cX11_canPlay 15 = .ok (.iload_n 2, 1) := by decide +kernel
theorem dX11_canPlay_16 : decode cX11_canPlay 16 = .ok (.iload_n 3, 1) := by decide +kernel
theorem dX11_canPlay_17 : decode cX11_canPlay 17 = .ok (.iconst 0, 1) := by decide +kernel
theorem dX11_canPlay_18 : decode cX11_canPlay 18 = .ok (.invokevirtual 331, 3) := by decide +kernel
theorem dX11_canPlay_21 : decode cX11_canPlay 21 = .ok (.iconst 1, 1) := by decide +kernel
theorem dX11_canPlay_22 : decode cX11_canPlay 22 = .ok (.if_icmp .ne 19, 3) := by decide +kernel
theorem dX11_canPlay_25 : decode cX11_canPlay 25 = .ok (.aload_n 0, 1) := by decide +kernel
theorem dX11_canPlay_26 : decode cX11_canPlay 26 = .ok (.iconst 3, 1) := by decide +kernel
theorem dX11_canPlay_27 : decode cX11_canPlay 27 = .ok (.iload_n 1, 1) := by decide +kernel
theorem dX11_canPlay_28 : decode cX11_canPlay 28 = .ok (.iload_n 2, 1) := by decide +kernel
theorem dX11_canPlay_29 : decode cX11_canPlay 29 = .ok (.iload_n 3, 1) := by decide +kernel
theorem dX11_canPlay_30 : decode cX11_canPlay 30 = .ok (.iconst 0, 1) := by decide +kernel
theorem dX11_canPlay_31 : decode cX11_canPlay 31 = .ok (.invokevirtual 331, 3) := by decide +kernel
theorem dX11_canPlay_34 : decode cX11_canPlay 34 = .ok (.ifCond .ne 7, 3) := by decide +kernel
theorem dX11_canPlay_37 : decode cX11_canPlay 37 = .ok (.iconst 1, 1) := by decide +kernel
theorem dX11_canPlay_38 : decode cX11_canPlay 38 = .ok (.goto 4, 3) := by decide +kernel
theorem dX11_canPlay_41 : decode cX11_canPlay 41 = .ok (.iconst 0, 1) := by decide +kernel
theorem dX11_canPlay_42 : decode cX11_canPlay 42 = .ok (.ireturn, 1) := by decide +kernel
theorem dX11_canHold_0 : decode cX11_canHold 0 = .ok (.iload_n 2, 1) := by decide +kernel
theorem dX11_canHold_1 : decode cX11_canHold 1 = .ok (.ifCond .ne 5, 3) := by decide +kernel
theorem dX11_canHold_4 : decode cX11_canHold 4 = .ok (.iconst 1, 1) := by decide +kernel
theorem dX11_canHold_5 : decode cX11_canHold 5 = .ok (.ireturn, 1) := by decide +kernel
theorem dX11_canHold_6 : decode cX11_canHold 6 = .ok (.iconst 0, 1) := by decide +kernel
theorem dX11_canHold_7 : decode cX11_canHold 7 = .ok (.istore_n 3, 1) := by decide +kernel
theorem dX11_canHold_8 : decode cX11_canHold 8 = .ok (.iload_n 2, 1) := by decide +kernel
theorem dX11_canHold_9 : decode cX11_canHold 9 = .ok (.iload_n 3, 1) := by decide +kernel
theorem dX11_canHold_10 : decode cX11_canHold 10 = .ok (.invokestatic 335, 3) := by decide +kernel
theorem dX11_canHold_13 : decode cX11_canHold 13 = .ok (.ifCond .ne 9, 3) := by decide +kernel
theorem dX11_canHold_16 : decode cX11_canHold 16 = .ok (.iinc 3 1, 3) := by decide +kernel
theorem dX11_canHold_19 : decode cX11_canHold 19 = .ok (.goto (-11), 3) := by decide +kernel
theorem dX11_canHold_22 : decode cX11_canHold 22 = .ok (.bipush 7, 2) := by decide +kernel
theorem dX11_canHold_24 : decode cX11_canHold 24 = .ok (.istore 4, 2) := by decide +kernel
theorem dX11_canHold_26 : decode cX11_canHold 26 = .ok (.iload_n 2, 1) := by decide +kernel
theorem dX11_canHold_27 : decode cX11_canHold 27 = .ok (.iload 4, 2) := by decide +kernel
theorem dX11_canHold_29 : decode cX11_canHold 29 = .ok (.invokestatic 335, 3) := by decide +kernel
theorem dX11_canHold_32 : decode cX11_canHold 32 = .ok (.ifCond .ne 9, 3) := by decide +kernel
theorem dX11_canHold_35 : decode cX11_canHold 35 = .ok (.iinc 4 (-1), 3) := by decide +kernel
theorem dX11_canHold_38 : decode cX11_canHold 38 = .ok (.goto (-12), 3) := by decide +kernel
theorem dX11_canHold_41 : decode cX11_canHold 41 = .ok (.iload_n 2, 1) := by decide +kernel
theorem dX11_canHold_42 : decode cX11_canHold 42 = .ok (.invokestatic 125, 3) := by decide +kernel
theorem dX11_canHold_45 : decode cX11_canHold 45 = .ok (.aload_n 0, 1) := by decide +kernel
theorem dX11_canHold_46 : decode cX11_canHold 46 = .ok (.getfield 28, 3) := by decide +kernel
theorem dX11_canHold_49 : decode cX11_canHold 49 = .ok (.bipush 25, 2) := by decide +kernel
theorem dX11_canHold_51 : decode cX11_canHold 51 = .ok (.iload_n 1, 1) := by decide +kernel
theorem dX11_canHold_52 : decode cX11_canHold 52 = .ok (.iadd, 1) := by decide +kernel
theorem dX11_canHold_53 : decode cX11_canHold 53 = .ok (.iaload, 1) := by decide +kernel
theorem dX11_canHold_54 : decode cX11_canHold 54 = .ok (.if_icmp .gt 23, 3) := by decide +kernel
theorem dX11_canHold_57 : decode cX11_canHold 57 = .ok (.iload 4, 2) := by decide +kernel
theorem dX11_canHold_59 : decode cX11_canHold 59 = .ok (.iload_n 3, 1) := by decide +kernel
theorem dX11_canHold_60 : decode cX11_canHold 60 = .ok (.isub, 1) := by decide +kernel
theorem dX11_canHold_61 : decode cX11_canHold 61 = .ok (.aload_n 0, 1) := by decide +kernel
theorem dX11_canHold_62 : decode cX11_canHold 62 = .ok (.getfield 28, 3) := by decide +kernel
theorem dX11_canHold_65 : decode cX11_canHold 65 = .ok (.bipush 31, 2) := by decide +kernel
theorem dX11_canHold_67 : decode cX11_canHold 67 = .ok (.iload_n 1, 1) := by decide +kernel
theorem dX11_canHold_68 : decode cX11_canHold 68 = .ok (.iadd, 1) := by decide +kernel
theorem dX11_canHold_69 : decode cX11_canHold 69 = .ok (.iaload, 1) := by decide +kernel
theorem dX11_canHold_70 : decode cX11_canHold 70 = .ok (.if_icmp .gt 7, 3) := by decide +kernel
theorem dX11_canHold_73 : decode cX11_canHold 73 = .ok (.iconst 1, 1) := by decide +kernel
theorem dX11_canHold_74 : decode cX11_canHold 74 = .ok (.goto 4, 3) := by decide +kernel
theorem dX11_canHold_77 : decode cX11_canHold 77 = .ok (.iconst 0, 1) := by decide +kernel
theorem dX11_canHold_78 : decode cX11_canHold 78 = .ok (.ireturn, 1) := by decide +kernel
theorem dX11_laysParts_0 : decode cX11_laysParts 0 = .ok (.iconst 0, 1) := by decide +kernel
theorem dX11_laysParts_1 : decode cX11_laysParts 1 = .ok (.istore_n 3, 1) := by decide +kernel
theorem dX11_laysParts_2 : decode cX11_laysParts 2 = .ok (.iload_n 3, 1) := by decide +kernel
theorem dX11_laysParts_3 : decode cX11_laysParts 3 = .ok (.aload_n 0, 1) := by decide +kernel
theorem dX11_laysParts_4 : decode cX11_laysParts 4 = .ok (.invokevirtual 118, 3) := by decide +kernel
theorem dX11_laysParts_7 : decode cX11_laysParts 7 = .ok (.if_icmp .ge 182, 3) := by decide +kernel
theorem dX11_laysParts_10 : decode cX11_laysParts 10 = .ok (.iconst 0, 1) := by decide +kernel
theorem dX11_laysParts_11 : decode cX11_laysParts 11 = .ok (.istore 4, 2) := by decide +kernel
theorem dX11_laysParts_13 : decode cX11_laysParts 13 = .ok (.iload 4, 2) := by decide +kernel
theorem dX11_laysParts_15 : decode cX11_laysParts 15 = .ok (.bipush 8, 2) := by decide +kernel
theorem dX11_laysParts_17 : decode cX11_laysParts 17 = .ok (.if_icmp .ge 50, 3) := by decide +kernel
theorem dX11_laysParts_20 : decode cX11_laysParts 20 = .ok (.aload_n 0, 1) := by decide +kernel
theorem dX11_laysParts_21 : decode cX11_laysParts 21 = .ok (.getfield 69, 3) := by decide +kernel
theorem dX11_laysParts_24 : decode cX11_laysParts 24 = .ok (.iload 4, 2) := by decide +kernel
theorem dX11_laysParts_26 : decode cX11_laysParts 26 = .ok (.iload_n 2, 1) := by decide +kernel
theorem dX11_laysParts_27 : decode cX11_laysParts 27 = .ok (.iload 4, 2) := by decide +kernel
theorem dX11_laysParts_29 : decode cX11_laysParts 29 = .ok (.invokestatic 335, 3) := by decide +kernel
theorem dX11_laysParts_32 : decode cX11_laysParts 32 = .ok (.ifCond .eq 25, 3) := by decide +kernel
theorem dX11_laysParts_35 : decode cX11_laysParts 35 = .ok (.aload_n 0, 1) := by decide +kernel
theorem dX11_laysParts_36 : decode cX11_laysParts 36 = .ok (.iload_n 3, 1) := by decide +kernel
theorem dX11_laysParts_37 : decode cX11_laysParts 37 = .ok (.iload 4, 2) := by decide +kernel
theorem dX11_laysParts_39 : decode cX11_laysParts 39 = .ok (.iload_n 1, 1) := by decide +kernel
theorem dX11_laysParts_40 : decode cX11_laysParts 40 = .ok (.invokevirtual 145, 3) := by decide +kernel
theorem dX11_laysParts_43 : decode cX11_laysParts 43 = .ok (.ifCond .eq 14, 3) := by decide +kernel
theorem dX11_laysParts_46 : decode cX11_laysParts 46 = .ok (.aload_n 0, 1) := by decide +kernel
theorem dX11_laysParts_47 : decode cX11_laysParts 47 = .ok (.iload_n 3, 1) := by decide +kernel
theorem dX11_laysParts_48 : decode cX11_laysParts 48 = .ok (.iload 4, 2) := by decide +kernel
theorem dX11_laysParts_50 : decode cX11_laysParts 50 = .ok (.iload_n 1, 1) := by decide +kernel
theorem dX11_laysParts_51 : decode cX11_laysParts 51 = .ok (.invokevirtual 141, 3) := by decide +kernel
theorem dX11_laysParts_54 : decode cX11_laysParts 54 = .ok (.goto 6, 3) := by decide +kernel
theorem dX11_laysParts_57 : decode cX11_laysParts 57 = .ok (.ldc_w 338, 3) := by decide +kernel
theorem dX11_laysParts_60 : decode cX11_laysParts 60 = .ok (.iastore, 1) := by decide +kernel
theorem dX11_laysParts_61 : decode cX11_laysParts 61 = .ok (.iinc 4 1, 3) := by decide +kernel
theorem dX11_laysParts_64 : decode cX11_laysParts 64 = .ok (.goto (-51), 3) := by decide +kernel
theorem dX11_laysParts_67 : decode cX11_laysParts 67 = .ok (.iconst 0, 1) := by decide +kernel
theorem dX11_laysParts_68 : decode cX11_laysParts 68 = .ok (.istore 4, 2) := by decide +kernel
theorem dX11_laysParts_70 : decode cX11_laysParts 70 = .ok (.iload 4, 2) := by decide +kernel
theorem dX11_laysParts_72 : decode cX11_laysParts 72 = .ok (.sipush 256, 3) := by decide +kernel
theorem dX11_laysParts_75 : decode cX11_laysParts 75 = .ok (.if_icmp .ge 108, 3) := by decide +kernel
theorem dX11_laysParts_78 : decode cX11_laysParts 78 = .ok (.iload 4, 2) := by decide +kernel
theorem dX11_laysParts_80 : decode cX11_laysParts 80 = .ok (.iload_n 2, 1) := by decide +kernel
theorem dX11_laysParts_81 : decode cX11_laysParts 81 = .ok (.iconst (-1), 1) := by decide +kernel
theorem dX11_laysParts_82 : decode cX11_laysParts 82 = .ok (.ixor, 1) := by decide +kernel
theorem dX11_laysParts_83 : decode cX11_laysParts 83 = .ok (.iand, 1) := by decide +kernel
theorem dX11_laysParts_84 : decode cX11_laysParts 84 = .ok (.ifCond .ne 17, 3) := by decide +kernel
theorem dX11_laysParts_87 : decode cX11_laysParts 87 = .ok (.aload_n 0, 1) := by decide +kernel
theorem dX11_laysParts_88 : decode cX11_laysParts 88 = .ok (.iload_n 3, 1) := by decide +kernel
theorem dX11_laysParts_89 : decode cX11_laysParts 89 = .ok (.iload 4, 2) := by decide +kernel
theorem dX11_laysParts_91 : decode cX11_laysParts 91 = .ok (.invokevirtual 339, 3) := by decide +kernel
theorem dX11_laysParts_94 : decode cX11_laysParts 94 = .ok (.ifCond .eq 7, 3) := by decide +kernel
theorem dX11_laysParts_97 : decode cX11_laysParts 97 = .ok (.iconst 0, 1) := by decide +kernel
theorem dX11_laysParts_98 : decode cX11_laysParts 98 = .ok (.goto 6, 3) := by decide +kernel
theorem dX11_laysParts_101 : decode cX11_laysParts 101 = .ok (.ldc_w 338, 3) := by decide +kernel
theorem dX11_laysParts_104 : decode cX11_laysParts 104 = .ok (.istore 5, 2) := by decide +kernel
theorem dX11_laysParts_106 : decode cX11_laysParts 106 = .ok (.iconst 0, 1) := by decide +kernel
theorem dX11_laysParts_107 : decode cX11_laysParts 107 = .ok (.istore 6, 2) := by decide +kernel
theorem dX11_laysParts_109 : decode cX11_laysParts 109 = .ok (.iload 6, 2) := by decide +kernel
theorem dX11_laysParts_111 : decode cX11_laysParts 111 = .ok (.bipush 8, 2) := by decide +kernel
theorem dX11_laysParts_113 : decode cX11_laysParts 113 = .ok (.if_icmp .ge 43, 3) := by decide +kernel
theorem dX11_laysParts_116 : decode cX11_laysParts 116 = .ok (.iload 5, 2) := by decide +kernel
theorem dX11_laysParts_118 : decode cX11_laysParts 118 = .ok (.ldc_w 338, 3) := by decide +kernel
theorem dX11_laysParts_121 : decode cX11_laysParts 121 = .ok (.if_icmp .ge 35, 3) := by decide +kernel
theorem dX11_laysParts_124 : decode cX11_laysParts 124 = .ok (.iload 5, 2) := by decide +kernel
theorem dX11_laysParts_126 : decode cX11_laysParts 126 = .ok (.iload 4, 2) := by decide +kernel
theorem dX11_laysParts_128 : decode cX11_laysParts 128 = .ok (.iload 6, 2) := by decide +kernel
theorem dX11_laysParts_130 : decode cX11_laysParts 130 = .ok (.invokestatic 335, 3) := by decide +kernel
theorem dX11_laysParts_133 : decode cX11_laysParts 133 = .ok (.ifCond .eq 13, 3) := by decide +kernel
theorem dX11_laysParts_136 : decode cX11_laysParts 136 = .ok (.aload_n 0, 1) := by decide +kernel
theorem dX11_laysParts_137 : decode cX11_laysParts 137 = .ok (.getfield 69, 3) := by decide +kernel
theorem dX11_laysParts_140 : decode cX11_laysParts 140 = .ok (.iload 6, 2) := by decide +kernel
theorem dX11_laysParts_142 : decode cX11_laysParts 142 = .ok (.iaload, 1) := by decide +kernel
theorem dX11_laysParts_143 : decode cX11_laysParts 143 = .ok (.goto 4, 3) := by decide +kernel
theorem dX11_laysParts_146 : decode cX11_laysParts 146 = .ok (.iconst 0, 1) := by decide +kernel
theorem dX11_laysParts_147 : decode cX11_laysParts 147 = .ok (.iadd, 1) := by decide +kernel
theorem dX11_laysParts_148 : decode cX11_laysParts 148 = .ok (.istore 5, 2) := by decide +kernel
theorem dX11_laysParts_150 : decode cX11_laysParts 150 = .ok (.iinc 6 1, 3) := by decide +kernel
theorem dX11_laysParts_153 : decode cX11_laysParts 153 = .ok (.goto (-44), 3) := by decide +kernel
theorem dX11_laysParts_156 : decode cX11_laysParts 156 = .ok (.aload_n 0, 1) := by decide +kernel
theorem dX11_laysParts_157 : decode cX11_laysParts 157 = .ok (.getfield 66, 3) := by decide +kernel
theorem dX11_laysParts_160 : decode cX11_laysParts 160 = .ok (.sipush 256, 3) := by decide +kernel
theorem dX11_laysParts_163 : decode cX11_laysParts 163 = .ok (.iload_n 3, 1) := by decide +kernel
theorem dX11_laysParts_164 : decode cX11_laysParts 164 = .ok (.imul, 1) := by decide +kernel
theorem dX11_laysParts_165 : decode cX11_laysParts 165 = .ok (.iload 4, 2) := by decide +kernel
theorem dX11_laysParts_167 : decode cX11_laysParts 167 = .ok (.iadd, 1) := by decide +kernel
theorem dX11_laysParts_168 : decode cX11_laysParts 168 = .ok (.ldc_w 338, 3) := by decide +kernel
theorem dX11_laysParts_171 : decode cX11_laysParts 171 = .ok (.iload 5, 2) := by decide +kernel
theorem dX11_laysParts_173 : decode cX11_laysParts 173 = .ok (.invokestatic 342, 3) := by decide +kernel
theorem dX11_laysParts_176 : decode cX11_laysParts 176 = .ok (.iastore, 1) := by decide +kernel
theorem dX11_laysParts_177 : decode cX11_laysParts 177 = .ok (.iinc 4 1, 3) := by decide +kernel
theorem dX11_laysParts_180 : decode cX11_laysParts 180 = .ok (.goto (-110), 3) := by decide +kernel
theorem dX11_laysParts_183 : decode cX11_laysParts 183 = .ok (.iinc 3 1, 3) := by decide +kernel
theorem dX11_laysParts_186 : decode cX11_laysParts 186 = .ok (.goto (-184), 3) := by decide +kernel
theorem dX11_laysParts_189 : decode cX11_laysParts 189 = .ok (.return_, 1) := by decide +kernel
theorem dX11_givesNothing_0 : decode cX11_givesNothing 0 = .ok (.iconst 0, 1) := by decide +kernel
theorem dX11_givesNothing_1 : decode cX11_givesNothing 1 = .ok (.istore_n 1, 1) := by decide +kernel
theorem dX11_givesNothing_2 : decode cX11_givesNothing 2 = .ok (.iload_n 1, 1) := by decide +kernel
theorem dX11_givesNothing_3 : decode cX11_givesNothing 3 = .ok (.bipush 6, 2) := by decide +kernel
theorem dX11_givesNothing_5 : decode cX11_givesNothing 5 = .ok (.if_icmp .ge 16, 3) := by decide +kernel
theorem dX11_givesNothing_8 : decode cX11_givesNothing 8 = .ok (.aload_n 0, 1) := by decide +kernel
theorem dX11_givesNothing_9 : decode cX11_givesNothing 9 = .ok (.getfield 75, 3) := by decide +kernel
theorem dX11_givesNothing_12 : decode cX11_givesNothing 12 = .ok (.iload_n 1, 1) := by decide +kernel
theorem dX11_givesNothing_13 : decode cX11_givesNothing 13 = .ok (.iconst 0, 1) := by decide +kernel
theorem dX11_givesNothing_14 : decode cX11_givesNothing 14 = .ok (.iastore, 1) := by decide +kernel
theorem dX11_givesNothing_15 : decode cX11_givesNothing 15 = .ok (.iinc 1 1, 3) := by decide +kernel
theorem dX11_givesNothing_18 : decode cX11_givesNothing 18 = .ok (.goto (-16), 3) := by decide +kernel
theorem dX11_givesNothing_21 : decode cX11_givesNothing 21 = .ok (.return_, 1) := by decide +kernel
theorem dX11_leastOf_0 : decode cX11_leastOf 0 = .ok (.iconst 0, 1) := by decide +kernel
theorem dX11_leastOf_1 : decode cX11_leastOf 1 = .ok (.istore_n 2, 1) := by decide +kernel
theorem dX11_leastOf_2 : decode cX11_leastOf 2 = .ok (.iload_n 2, 1) := by decide +kernel
theorem dX11_leastOf_3 : decode cX11_leastOf 3 = .ok (.iload_n 1, 1) := by decide +kernel
theorem dX11_leastOf_4 : decode cX11_leastOf 4 = .ok (.if_icmp .gt 35, 3) := by decide +kernel
theorem dX11_leastOf_7 : decode cX11_leastOf 7 = .ok (.aload_n 0, 1) := by decide +kernel
theorem dX11_leastOf_8 : decode cX11_leastOf 8 = .ok (.getfield 72, 3) := by decide +kernel
theorem dX11_leastOf_11 : decode cX11_leastOf 11 = .ok (.sipush 256, 3) := by decide +kernel
theorem dX11_leastOf_14 : decode cX11_leastOf 14 = .ok (.aload_n 0, 1) := by decide +kernel
theorem dX11_leastOf_15 : decode cX11_leastOf 15 = .ok (.invokevirtual 118, 3) := by decide +kernel
theorem dX11_leastOf_18 : decode cX11_leastOf 18 = .ok (.imul, 1) := by decide +kernel
theorem dX11_leastOf_19 : decode cX11_leastOf 19 = .ok (.iload_n 2, 1) := by decide +kernel
theorem dX11_leastOf_20 : decode cX11_leastOf 20 = .ok (.iadd, 1) := by decide +kernel
theorem dX11_leastOf_21 : decode cX11_leastOf 21 = .ok (.iload_n 2, 1) := by decide +kernel
theorem dX11_leastOf_22 : decode cX11_leastOf 22 = .ok (.ifCond .ne 7, 3) := by decide +kernel
theorem dX11_leastOf_25 : decode cX11_leastOf 25 = .ok (.iconst 0, 1) := by decide +kernel
theorem dX11_leastOf_26 : decode cX11_leastOf 26 = .ok (.goto 6, 3) := by decide +kernel
theorem dX11_leastOf_29 : decode cX11_leastOf 29 = .ok (.ldc_w 338, 3) := by decide +kernel
theorem dX11_leastOf_32 : decode cX11_leastOf 32 = .ok (.iastore, 1) := by decide +kernel
theorem dX11_leastOf_33 : decode cX11_leastOf 33 = .ok (.iinc 2 1, 3) := by decide +kernel
theorem dX11_leastOf_36 : decode cX11_leastOf 36 = .ok (.goto (-34), 3) := by decide +kernel
theorem dX11_leastOf_39 : decode cX11_leastOf 39 = .ok (.aload_n 0, 1) := by decide +kernel
theorem dX11_leastOf_40 : decode cX11_leastOf 40 = .ok (.invokevirtual 118, 3) := by decide +kernel
theorem dX11_leastOf_43 : decode cX11_leastOf 43 = .ok (.iconst 1, 1) := by decide +kernel
theorem dX11_leastOf_44 : decode cX11_leastOf 44 = .ok (.isub, 1) := by decide +kernel
theorem dX11_leastOf_45 : decode cX11_leastOf 45 = .ok (.istore_n 2, 1) := by decide +kernel
theorem dX11_leastOf_46 : decode cX11_leastOf 46 = .ok (.iload_n 2, 1) := by decide +kernel
theorem dX11_leastOf_47 : decode cX11_leastOf 47 = .ok (.ifCond .lt 151, 3) := by decide +kernel
theorem dX11_leastOf_50 : decode cX11_leastOf 50 = .ok (.iconst 0, 1) := by decide +kernel
theorem dX11_leastOf_51 : decode cX11_leastOf 51 = .ok (.istore_n 3, 1) := by decide +kernel
theorem dX11_leastOf_52 : decode cX11_leastOf 52 = .ok (.iload_n 3, 1) := by decide +kernel
theorem dX11_leastOf_53 : decode cX11_leastOf 53 = .ok (.iload_n 1, 1) := by decide +kernel
theorem dX11_leastOf_54 : decode cX11_leastOf 54 = .ok (.if_icmp .gt 138, 3) := by decide +kernel
theorem dX11_leastOf_57 : decode cX11_leastOf 57 = .ok (.iload_n 3, 1) := by decide +kernel
theorem dX11_leastOf_58 : decode cX11_leastOf 58 = .ok (.iload_n 1, 1) := by decide +kernel
theorem dX11_leastOf_59 : decode cX11_leastOf 59 = .ok (.iconst (-1), 1) := by decide +kernel
theorem dX11_leastOf_60 : decode cX11_leastOf 60 = .ok (.ixor, 1) := by decide +kernel
theorem dX11_leastOf_61 : decode cX11_leastOf 61 = .ok (.iand, 1) := by decide +kernel
theorem dX11_leastOf_62 : decode cX11_leastOf 62 = .ok (.ifCond .eq 6, 3) := by decide +kernel
theorem dX11_leastOf_65 : decode cX11_leastOf 65 = .ok (.goto 121, 3) := by decide +kernel
theorem dX11_leastOf_68 : decode cX11_leastOf 68 = .ok (.ldc_w 338, 3) := by decide +kernel
theorem dX11_leastOf_71 : decode cX11_leastOf 71 = .ok (.aload_n 0, 1) := by decide +kernel
theorem dX11_leastOf_72 : decode cX11_leastOf 72 = .ok (.getfield 66, 3) := by decide +kernel
theorem dX11_leastOf_75 : decode cX11_leastOf 75 = .ok (.sipush 256, 3) := by decide +kernel
theorem dX11_leastOf_78 : decode cX11_leastOf 78 = .ok (.iload_n 2, 1) := by decide +kernel
theorem dX11_leastOf_79 : decode cX11_leastOf 79 = .ok (.imul, 1) := by decide +kernel
theorem dX11_leastOf_80 : decode cX11_leastOf 80 = .ok (.aload_n 0, 1) := by decide +kernel
theorem dX11_leastOf_81 : decode cX11_leastOf 81 = .ok (.getfield 75, 3) := by decide +kernel
theorem dX11_leastOf_84 : decode cX11_leastOf 84 = .ok (.iload_n 2, 1) := by decide +kernel
theorem dX11_leastOf_85 : decode cX11_leastOf 85 = .ok (.iaload, 1) := by decide +kernel
theorem dX11_leastOf_86 : decode cX11_leastOf 86 = .ok (.iadd, 1) := by decide +kernel
theorem dX11_leastOf_87 : decode cX11_leastOf 87 = .ok (.iaload, 1) := by decide +kernel
theorem dX11_leastOf_88 : decode cX11_leastOf 88 = .ok (.aload_n 0, 1) := by decide +kernel
theorem dX11_leastOf_89 : decode cX11_leastOf 89 = .ok (.getfield 72, 3) := by decide +kernel
theorem dX11_leastOf_92 : decode cX11_leastOf 92 = .ok (.sipush 256, 3) := by decide +kernel
theorem dX11_leastOf_95 : decode cX11_leastOf 95 = .ok (.iload_n 2, 1) := by decide +kernel
theorem dX11_leastOf_96 : decode cX11_leastOf 96 = .ok (.iconst 1, 1) := by decide +kernel
theorem dX11_leastOf_97 : decode cX11_leastOf 97 = .ok (.iadd, 1) := by decide +kernel
theorem dX11_leastOf_98 : decode cX11_leastOf 98 = .ok (.imul, 1) := by decide +kernel
theorem dX11_leastOf_99 : decode cX11_leastOf 99 = .ok (.iload_n 3, 1) := by decide +kernel
theorem dX11_leastOf_100 : decode cX11_leastOf 100 = .ok (.iadd, 1) := by decide +kernel
theorem dX11_leastOf_101 : decode cX11_leastOf 101 = .ok (.iaload, 1) := by decide +kernel
theorem dX11_leastOf_102 : decode cX11_leastOf 102 = .ok (.iadd, 1) := by decide +kernel
theorem dX11_leastOf_103 : decode cX11_leastOf 103 = .ok (.invokestatic 342, 3) := by decide +kernel
theorem dX11_leastOf_106 : decode cX11_leastOf 106 = .ok (.istore 4, 2) := by decide +kernel
theorem dX11_leastOf_108 : decode cX11_leastOf 108 = .ok (.iload_n 3, 1) := by decide +kernel
theorem dX11_leastOf_109 : decode cX11_leastOf 109 = .ok (.istore 5, 2) := by decide +kernel
theorem dX11_leastOf_111 : decode cX11_leastOf 111 = .ok (.iload 5, 2) := by decide +kernel
theorem dX11_leastOf_113 : decode cX11_leastOf 113 = .ok (.ifCond .le 59, 3) := by decide +kernel
theorem dX11_leastOf_116 : decode cX11_leastOf 116 = .ok (.iload 4, 2) := by decide +kernel
theorem dX11_leastOf_118 : decode cX11_leastOf 118 = .ok (.aload_n 0, 1) := by decide +kernel
theorem dX11_leastOf_119 : decode cX11_leastOf 119 = .ok (.getfield 66, 3) := by decide +kernel
theorem dX11_leastOf_122 : decode cX11_leastOf 122 = .ok (.sipush 256, 3) := by decide +kernel
theorem dX11_leastOf_125 : decode cX11_leastOf 125 = .ok (.iload_n 2, 1) := by decide +kernel
theorem dX11_leastOf_126 : decode cX11_leastOf 126 = .ok (.imul, 1) := by decide +kernel
theorem dX11_leastOf_127 : decode cX11_leastOf 127 = .ok (.aload_n 0, 1) := by decide +kernel
theorem dX11_leastOf_128 : decode cX11_leastOf 128 = .ok (.getfield 75, 3) := by decide +kernel
theorem dX11_leastOf_131 : decode cX11_leastOf 131 = .ok (.iload_n 2, 1) := by decide +kernel
theorem dX11_leastOf_132 : decode cX11_leastOf 132 = .ok (.iaload, 1) := by decide +kernel
theorem dX11_leastOf_133 : decode cX11_leastOf 133 = .ok (.iload 5, 2) := by decide +kernel
theorem dX11_leastOf_135 : decode cX11_leastOf 135 = .ok (.ior, 1) := by decide +kernel
theorem dX11_leastOf_136 : decode cX11_leastOf 136 = .ok (.iadd, 1) := by decide +kernel
theorem dX11_leastOf_137 : decode cX11_leastOf 137 = .ok (.iaload, 1) := by decide +kernel
theorem dX11_leastOf_138 : decode cX11_leastOf 138 = .ok (.aload_n 0, 1) := by decide +kernel
theorem dX11_leastOf_139 : decode cX11_leastOf 139 = .ok (.getfield 72, 3) := by decide +kernel
theorem dX11_leastOf_142 : decode cX11_leastOf 142 = .ok (.sipush 256, 3) := by decide +kernel
theorem dX11_leastOf_145 : decode cX11_leastOf 145 = .ok (.iload_n 2, 1) := by decide +kernel
theorem dX11_leastOf_146 : decode cX11_leastOf 146 = .ok (.iconst 1, 1) := by decide +kernel
theorem dX11_leastOf_147 : decode cX11_leastOf 147 = .ok (.iadd, 1) := by decide +kernel
theorem dX11_leastOf_148 : decode cX11_leastOf 148 = .ok (.imul, 1) := by decide +kernel
theorem dX11_leastOf_149 : decode cX11_leastOf 149 = .ok (.iload_n 3, 1) := by decide +kernel
theorem dX11_leastOf_150 : decode cX11_leastOf 150 = .ok (.iload 5, 2) := by decide +kernel
theorem dX11_leastOf_152 : decode cX11_leastOf 152 = .ok (.ixor, 1) := by decide +kernel
theorem dX11_leastOf_153 : decode cX11_leastOf 153 = .ok (.iadd, 1) := by decide +kernel
theorem dX11_leastOf_154 : decode cX11_leastOf 154 = .ok (.iaload, 1) := by decide +kernel
theorem dX11_leastOf_155 : decode cX11_leastOf 155 = .ok (.iadd, 1) := by decide +kernel
theorem dX11_leastOf_156 : decode cX11_leastOf 156 = .ok (.invokestatic 342, 3) := by decide +kernel
theorem dX11_leastOf_159 : decode cX11_leastOf 159 = .ok (.istore 4, 2) := by decide +kernel
theorem dX11_leastOf_161 : decode cX11_leastOf 161 = .ok (.iload 5, 2) := by decide +kernel
theorem dX11_leastOf_163 : decode cX11_leastOf 163 = .ok (.iconst 1, 1) := by decide +kernel
theorem dX11_leastOf_164 : decode cX11_leastOf 164 = .ok (.isub, 1) := by decide +kernel
theorem dX11_leastOf_165 : decode cX11_leastOf 165 = .ok (.iload_n 3, 1) := by decide +kernel
theorem dX11_leastOf_166 : decode cX11_leastOf 166 = .ok (.iand, 1) := by decide +kernel
theorem dX11_leastOf_167 : decode cX11_leastOf 167 = .ok (.istore 5, 2) := by decide +kernel
theorem dX11_leastOf_169 : decode cX11_leastOf 169 = .ok (.goto (-58), 3) := by decide +kernel
theorem dX11_leastOf_172 : decode cX11_leastOf 172 = .ok (.aload_n 0, 1) := by decide +kernel
theorem dX11_leastOf_173 : decode cX11_leastOf 173 = .ok (.getfield 72, 3) := by decide +kernel
theorem dX11_leastOf_176 : decode cX11_leastOf 176 = .ok (.sipush 256, 3) := by decide +kernel
theorem dX11_leastOf_179 : decode cX11_leastOf 179 = .ok (.iload_n 2, 1) := by decide +kernel
theorem dX11_leastOf_180 : decode cX11_leastOf 180 = .ok (.imul, 1) := by decide +kernel
theorem dX11_leastOf_181 : decode cX11_leastOf 181 = .ok (.iload_n 3, 1) := by decide +kernel
theorem dX11_leastOf_182 : decode cX11_leastOf 182 = .ok (.iadd, 1) := by decide +kernel
theorem dX11_leastOf_183 : decode cX11_leastOf 183 = .ok (.iload 4, 2) := by decide +kernel
theorem dX11_leastOf_185 : decode cX11_leastOf 185 = .ok (.iastore, 1) := by decide +kernel
theorem dX11_leastOf_186 : decode cX11_leastOf 186 = .ok (.iinc 3 1, 3) := by decide +kernel
theorem dX11_leastOf_189 : decode cX11_leastOf 189 = .ok (.goto (-137), 3) := by decide +kernel
theorem dX11_leastOf_192 : decode cX11_leastOf 192 = .ok (.iinc 2 (-1), 3) := by decide +kernel
theorem dX11_leastOf_195 : decode cX11_leastOf 195 = .ok (.goto (-149), 3) := by decide +kernel
theorem dX11_leastOf_198 : decode cX11_leastOf 198 = .ok (.aload_n 0, 1) := by decide +kernel
theorem dX11_leastOf_199 : decode cX11_leastOf 199 = .ok (.getfield 72, 3) := by decide +kernel
theorem dX11_leastOf_202 : decode cX11_leastOf 202 = .ok (.iload_n 1, 1) := by decide +kernel
theorem dX11_leastOf_203 : decode cX11_leastOf 203 = .ok (.iaload, 1) := by decide +kernel
theorem dX11_leastOf_204 : decode cX11_leastOf 204 = .ok (.ireturn, 1) := by decide +kernel
theorem dX11_mindedOf_0 : decode cX11_mindedOf 0 = .ok (.aload_n 0, 1) := by decide +kernel
theorem dX11_mindedOf_1 : decode cX11_mindedOf 1 = .ok (.iload_n 1, 1) := by decide +kernel
theorem dX11_mindedOf_2 : decode cX11_mindedOf 2 = .ok (.iload_n 2, 1) := by decide +kernel
theorem dX11_mindedOf_3 : decode cX11_mindedOf 3 = .ok (.invokevirtual 345, 3) := by decide +kernel
theorem dX11_mindedOf_6 : decode cX11_mindedOf 6 = .ok (.aload_n 0, 1) := by decide +kernel
theorem dX11_mindedOf_7 : decode cX11_mindedOf 7 = .ok (.invokevirtual 348, 3) := by decide +kernel
theorem dX11_mindedOf_10 : decode cX11_mindedOf 10 = .ok (.aload_n 0, 1) := by decide +kernel
theorem dX11_mindedOf_11 : decode cX11_mindedOf 11 = .ok (.iload_n 2, 1) := by decide +kernel
theorem dX11_mindedOf_12 : decode cX11_mindedOf 12 = .ok (.invokevirtual 351, 3) := by decide +kernel
theorem dX11_mindedOf_15 : decode cX11_mindedOf 15 = .ok (.ireturn, 1) := by decide +kernel
theorem dX11_leastAt_0 : decode cX11_leastAt 0 = .ok (.aload_n 0, 1) := by decide +kernel
theorem dX11_leastAt_1 : decode cX11_leastAt 1 = .ok (.iload_n 1, 1) := by decide +kernel
theorem dX11_leastAt_2 : decode cX11_leastAt 2 = .ok (.aload_n 0, 1) := by decide +kernel
theorem dX11_leastAt_3 : decode cX11_leastAt 3 = .ok (.iload_n 1, 1) := by decide +kernel
theorem dX11_leastAt_4 : decode cX11_leastAt 4 = .ok (.invokevirtual 122, 3) := by decide +kernel
theorem dX11_leastAt_7 : decode cX11_leastAt 7 = .ok (.invokevirtual 354, 3) := by decide +kernel
theorem dX11_leastAt_10 : decode cX11_leastAt 10 = .ok (.ireturn, 1) := by decide +kernel
theorem dX11_drill_0 : decode cX11_drill 0 = .ok (.iconst 0, 1) := by decide +kernel
theorem dX11_drill_1 : decode cX11_drill 1 = .ok (.istore_n 1, 1) := by decide +kernel
theorem dX11_drill_2 : decode cX11_drill 2 = .ok (.iload_n 1, 1) := by decide +kernel
theorem dX11_drill_3 : decode cX11_drill 3 = .ok (.bipush 16, 2) := by decide +kernel
theorem dX11_drill_5 : decode cX11_drill 5 = .ok (.if_icmp .ge 20, 3) := by decide +kernel
theorem dX11_drill_8 : decode cX11_drill 8 = .ok (.aload_n 0, 1) := by decide +kernel
theorem dX11_drill_9 : decode cX11_drill 9 = .ok (.iload_n 1, 1) := by decide +kernel
theorem dX11_drill_10 : decode cX11_drill 10 = .ok (.invokevirtual 357, 3) := by decide +kernel
theorem dX11_drill_13 : decode cX11_drill 13 = .ok (.ldc_w 338, 3) := by decide +kernel
theorem dX11_drill_16 : decode cX11_drill 16 = .ok (.if_icmp .ge 9, 3) := by decide +kernel
theorem dX11_drill_19 : decode cX11_drill 19 = .ok (.iinc 1 1, 3) := by decide +kernel
theorem dX11_drill_22 : decode cX11_drill 22 = .ok (.goto (-20), 3) := by decide +kernel
theorem dX11_drill_25 : decode cX11_drill 25 = .ok (.iload_n 1, 1) := by decide +kernel
theorem dX11_drill_26 : decode cX11_drill 26 = .ok (.ireturn, 1) := by decide +kernel
theorem dX11_leastOfAll_0 : decode cX11_leastOfAll 0 = .ok (.iconst 0, 1) := by decide +kernel
theorem dX11_leastOfAll_1 : decode cX11_leastOfAll 1 = .ok (.istore_n 2, 1) := by decide +kernel
theorem dX11_leastOfAll_2 : decode cX11_leastOfAll 2 = .ok (.iconst 0, 1) := by decide +kernel
theorem dX11_leastOfAll_3 : decode cX11_leastOfAll 3 = .ok (.istore_n 3, 1) := by decide +kernel
theorem dX11_leastOfAll_4 : decode cX11_leastOfAll 4 = .ok (.iload_n 3, 1) := by decide +kernel
theorem dX11_leastOfAll_5 : decode cX11_leastOfAll 5 = .ok (.bipush 16, 2) := by decide +kernel
theorem dX11_leastOfAll_7 : decode cX11_leastOfAll 7 = .ok (.if_icmp .ge 55, 3) := by decide +kernel
theorem dX11_leastOfAll_10 : decode cX11_leastOfAll 10 = .ok (.iload_n 2, 1) := by decide +kernel
theorem dX11_leastOfAll_11 : decode cX11_leastOfAll 11 = .ok (.ldc_w 338, 3) := by decide +kernel
theorem dX11_leastOfAll_14 : decode cX11_leastOfAll 14 = .ok (.if_icmp .ge 48, 3) := by decide +kernel
theorem dX11_leastOfAll_17 : decode cX11_leastOfAll 17 = .ok (.aload_n 0, 1) := by decide +kernel
theorem dX11_leastOfAll_18 : decode cX11_leastOfAll 18 = .ok (.iload_n 3, 1) := by decide +kernel
theorem dX11_leastOfAll_19 : decode cX11_leastOfAll 19 = .ok (.invokevirtual 122, 3) := by decide +kernel
theorem dX11_leastOfAll_22 : decode cX11_leastOfAll 22 = .ok (.iload_n 1, 1) := by decide +kernel
theorem dX11_leastOfAll_23 : decode cX11_leastOfAll 23 = .ok (.invokestatic 360, 3) := by decide +kernel
theorem dX11_leastOfAll_26 : decode cX11_leastOfAll 26 = .ok (.istore 4, 2) := by decide +kernel
theorem dX11_leastOfAll_28 : decode cX11_leastOfAll 28 = .ok (.iload 4, 2) := by decide +kernel
theorem dX11_leastOfAll_30 : decode cX11_leastOfAll 30 = .ok (.iconst (-1), 1) := by decide +kernel
theorem dX11_leastOfAll_31 : decode cX11_leastOfAll 31 = .ok (.if_icmp .ne 9, 3) := by decide +kernel
theorem dX11_leastOfAll_34 : decode cX11_leastOfAll 34 = .ok (.ldc_w 338, 3) := by decide +kernel
theorem dX11_leastOfAll_37 : decode cX11_leastOfAll 37 = .ok (.goto 18, 3) := by decide +kernel
theorem dX11_leastOfAll_40 : decode cX11_leastOfAll 40 = .ok (.ldc_w 338, 3) := by decide +kernel
theorem dX11_leastOfAll_43 : decode cX11_leastOfAll 43 = .ok (.iload_n 2, 1) := by decide +kernel
theorem dX11_leastOfAll_44 : decode cX11_leastOfAll 44 = .ok (.aload_n 0, 1) := by decide +kernel
theorem dX11_leastOfAll_45 : decode cX11_leastOfAll 45 = .ok (.iload_n 3, 1) := by decide +kernel
theorem dX11_leastOfAll_46 : decode cX11_leastOfAll 46 = .ok (.iload 4, 2) := by decide +kernel
theorem dX11_leastOfAll_48 : decode cX11_leastOfAll 48 = .ok (.invokevirtual 354, 3) := by decide +kernel
theorem dX11_leastOfAll_51 : decode cX11_leastOfAll 51 = .ok (.iadd, 1) := by decide +kernel
theorem dX11_leastOfAll_52 : decode cX11_leastOfAll 52 = .ok (.invokestatic 342, 3) := by decide +kernel
theorem dX11_leastOfAll_55 : decode cX11_leastOfAll 55 = .ok (.istore_n 2, 1) := by decide +kernel
theorem dX11_leastOfAll_56 : decode cX11_leastOfAll 56 = .ok (.iinc 3 1, 3) := by decide +kernel
theorem dX11_leastOfAll_59 : decode cX11_leastOfAll 59 = .ok (.goto (-55), 3) := by decide +kernel
theorem dX11_leastOfAll_62 : decode cX11_leastOfAll 62 = .ok (.iload_n 2, 1) := by decide +kernel
theorem dX11_leastOfAll_63 : decode cX11_leastOfAll 63 = .ok (.ireturn, 1) := by decide +kernel
theorem dX11_least_0 : decode cX11_least 0 = .ok (.iload_n 1, 1) := by decide +kernel
theorem dX11_least_1 : decode cX11_least 1 = .ok (.iconst (-1), 1) := by decide +kernel
theorem dX11_least_2 : decode cX11_least 2 = .ok (.if_icmp .eq 12, 3) := by decide +kernel
theorem dX11_least_5 : decode cX11_least 5 = .ok (.iload_n 1, 1) := by decide +kernel
theorem dX11_least_6 : decode cX11_least 6 = .ok (.invokestatic 138, 3) := by decide +kernel
theorem dX11_least_9 : decode cX11_least 9 = .ok (.ifCond .ne 5, 3) := by decide +kernel
theorem dX11_least_12 : decode cX11_least 12 = .ok (.iconst (-1), 1) := by decide +kernel
theorem dX11_least_13 : decode cX11_least 13 = .ok (.ireturn, 1) := by decide +kernel
theorem dX11_least_14 : decode cX11_least 14 = .ok (.iload_n 1, 1) := by decide +kernel
theorem dX11_least_15 : decode cX11_least 15 = .ok (.iconst (-1), 1) := by decide +kernel
theorem dX11_least_16 : decode cX11_least 16 = .ok (.if_icmp .ne 11, 3) := by decide +kernel
theorem dX11_least_19 : decode cX11_least 19 = .ok (.aload_n 0, 1) := by decide +kernel
theorem dX11_least_20 : decode cX11_least 20 = .ok (.iconst 0, 1) := by decide +kernel
theorem dX11_least_21 : decode cX11_least 21 = .ok (.invokevirtual 363, 3) := by decide +kernel
theorem dX11_least_24 : decode cX11_least 24 = .ok (.goto 8, 3) := by decide +kernel
theorem dX11_least_27 : decode cX11_least 27 = .ok (.aload_n 0, 1) := by decide +kernel
theorem dX11_least_28 : decode cX11_least 28 = .ok (.iload_n 1, 1) := by decide +kernel
theorem dX11_least_29 : decode cX11_least 29 = .ok (.invokevirtual 357, 3) := by decide +kernel
theorem dX11_least_32 : decode cX11_least 32 = .ok (.istore_n 2, 1) := by decide +kernel
theorem dX11_least_33 : decode cX11_least 33 = .ok (.iload_n 2, 1) := by decide +kernel
theorem dX11_least_34 : decode cX11_least 34 = .ok (.ldc_w 338, 3) := by decide +kernel
theorem dX11_least_37 : decode cX11_least 37 = .ok (.if_icmp .ne 7, 3) := by decide +kernel
theorem dX11_least_40 : decode cX11_least 40 = .ok (.iconst (-1), 1) := by decide +kernel
theorem dX11_least_41 : decode cX11_least 41 = .ok (.goto 4, 3) := by decide +kernel
theorem dX11_least_44 : decode cX11_least 44 = .ok (.iload_n 2, 1) := by decide +kernel
theorem dX11_least_45 : decode cX11_least 45 = .ok (.ireturn, 1) := by decide +kernel
theorem dX11_compare_0 : decode cX11_compare 0 = .ok (.aload_n 0, 1) := by decide +kernel
theorem dX11_compare_1 : decode cX11_compare 1 = .ok (.iload_n 1, 1) := by decide +kernel
theorem dX11_compare_2 : decode cX11_compare 2 = .ok (.invokevirtual 259, 3) := by decide +kernel
theorem dX11_compare_5 : decode cX11_compare 5 = .ok (.ifCond .ne 5, 3) := by decide +kernel
theorem dX11_compare_8 : decode cX11_compare 8 = .ok (.iconst (-1), 1) := by decide +kernel
theorem dX11_compare_9 : decode cX11_compare 9 = .ok (.ireturn, 1) := by decide +kernel
theorem dX11_compare_10 : decode cX11_compare 10 = .ok (.aload_n 0, 1) := by decide +kernel
theorem dX11_compare_11 : decode cX11_compare 11 = .ok (.getfield 28, 3) := by decide +kernel
theorem dX11_compare_14 : decode cX11_compare 14 = .ok (.bipush 48, 2) := by decide +kernel
theorem dX11_compare_16 : decode cX11_compare 16 = .ok (.iaload, 1) := by decide +kernel
theorem dX11_compare_17 : decode cX11_compare 17 = .ok (.istore_n 2, 1) := by decide +kernel
theorem dX11_compare_18 : decode cX11_compare 18 = .ok (.aload_n 0, 1) := by decide +kernel
theorem dX11_compare_19 : decode cX11_compare 19 = .ok (.getfield 28, 3) := by decide +kernel
theorem dX11_compare_22 : decode cX11_compare 22 = .ok (.bipush 48, 2) := by decide +kernel
theorem dX11_compare_24 : decode cX11_compare 24 = .ok (.iload_n 1, 1) := by decide +kernel
theorem dX11_compare_25 : decode cX11_compare 25 = .ok (.iastore, 1) := by decide +kernel
theorem dX11_compare_26 : decode cX11_compare 26 = .ok (.aload_n 0, 1) := by decide +kernel
theorem dX11_compare_27 : decode cX11_compare 27 = .ok (.iconst (-1), 1) := by decide +kernel
theorem dX11_compare_28 : decode cX11_compare 28 = .ok (.invokevirtual 366, 3) := by decide +kernel
theorem dX11_compare_31 : decode cX11_compare 31 = .ok (.istore_n 3, 1) := by decide +kernel
theorem dX11_compare_32 : decode cX11_compare 32 = .ok (.aload_n 0, 1) := by decide +kernel
theorem dX11_compare_33 : decode cX11_compare 33 = .ok (.getfield 28, 3) := by decide +kernel
theorem dX11_compare_36 : decode cX11_compare 36 = .ok (.bipush 48, 2) := by decide +kernel
theorem dX11_compare_38 : decode cX11_compare 38 = .ok (.iload_n 2, 1) := by decide +kernel
theorem dX11_compare_39 : decode cX11_compare 39 = .ok (.iastore, 1) := by decide +kernel
theorem dX11_compare_40 : decode cX11_compare 40 = .ok (.iload_n 3, 1) := by decide +kernel
theorem dX11_compare_41 : decode cX11_compare 41 = .ok (.ireturn, 1) := by decide +kernel
theorem dX11_laysWay_0 : decode cX11_laysWay 0 = .ok (.aload_n 0, 1) := by decide +kernel
theorem dX11_laysWay_1 : decode cX11_laysWay 1 = .ok (.iload_n 1, 1) := by decide +kernel
theorem dX11_laysWay_2 : decode cX11_laysWay 2 = .ok (.invokevirtual 122, 3) := by decide +kernel
theorem dX11_laysWay_5 : decode cX11_laysWay 5 = .ok (.istore_n 2, 1) := by decide +kernel
theorem dX11_laysWay_6 : decode cX11_laysWay 6 = .ok (.aload_n 0, 1) := by decide +kernel
theorem dX11_laysWay_7 : decode cX11_laysWay 7 = .ok (.iload_n 1, 1) := by decide +kernel
theorem dX11_laysWay_8 : decode cX11_laysWay 8 = .ok (.invokevirtual 357, 3) := by decide +kernel
theorem dX11_laysWay_11 : decode cX11_laysWay 11 = .ok (.istore_n 3, 1) := by decide +kernel
theorem dX11_laysWay_12 : decode cX11_laysWay 12 = .ok (.iconst 0, 1) := by decide +kernel
theorem dX11_laysWay_13 : decode cX11_laysWay 13 = .ok (.istore 4, 2) := by decide +kernel
theorem dX11_laysWay_15 : decode cX11_laysWay 15 = .ok (.iload 4, 2) := by decide +kernel
theorem dX11_laysWay_17 : decode cX11_laysWay 17 = .ok (.bipush 8, 2) := by decide +kernel
theorem dX11_laysWay_19 : decode cX11_laysWay 19 = .ok (.if_icmp .ge 116, 3) := by decide +kernel
theorem dX11_laysWay_22 : decode cX11_laysWay 22 = .ok (.aload_n 0, 1) := by decide +kernel
theorem dX11_laysWay_23 : decode cX11_laysWay 23 = .ok (.getfield 78, 3) := by decide +kernel
theorem dX11_laysWay_26 : decode cX11_laysWay 26 = .ok (.iload 4, 2) := by decide +kernel
theorem dX11_laysWay_28 : decode cX11_laysWay 28 = .ok (.iconst (-1), 1) := by decide +kernel
theorem dX11_laysWay_29 : decode cX11_laysWay 29 = .ok (.iastore, 1) := by decide +kernel
theorem dX11_laysWay_30 : decode cX11_laysWay 30 = .ok (.iload_n 2, 1) := by decide +kernel
theorem dX11_laysWay_31 : decode cX11_laysWay 31 = .ok (.iload 4, 2) := by decide +kernel
theorem dX11_laysWay_33 : decode cX11_laysWay 33 = .ok (.invokestatic 335, 3) := by decide +kernel
theorem dX11_laysWay_36 : decode cX11_laysWay 36 = .ok (.ifCond .eq 93, 3) := by decide +kernel
theorem dX11_laysWay_39 : decode cX11_laysWay 39 = .ok (.iload_n 3, 1) := by decide +kernel
theorem dX11_laysWay_40 : decode cX11_laysWay 40 = .ok (.ldc_w 338, 3) := by decide +kernel
theorem dX11_laysWay_43 : decode cX11_laysWay 43 = .ok (.if_icmp .ne 6, 3) := by decide +kernel
theorem dX11_laysWay_46 : decode cX11_laysWay 46 = .ok (.goto 83, 3) := by decide +kernel
theorem dX11_laysWay_49 : decode cX11_laysWay 49 = .ok (.iload_n 2, 1) := by decide +kernel
theorem dX11_laysWay_50 : decode cX11_laysWay 50 = .ok (.iconst 1, 1) := by decide +kernel
theorem dX11_laysWay_51 : decode cX11_laysWay 51 = .ok (.iload 4, 2) := by decide +kernel
theorem dX11_laysWay_53 : decode cX11_laysWay 53 = .ok (.ishl, 1) := by decide +kernel
theorem dX11_laysWay_54 : decode cX11_laysWay 54 = .ok (.iconst (-1), 1) := by decide +kernel
theorem dX11_laysWay_55 : decode cX11_laysWay 55 = .ok (.ixor, 1) := by decide +kernel
theorem dX11_laysWay_56 : decode cX11_laysWay 56 = .ok (.iand, 1) := by decide +kernel
theorem dX11_laysWay_57 : decode cX11_laysWay 57 = .ok (.istore_n 2, 1) := by decide +kernel
theorem dX11_laysWay_58 : decode cX11_laysWay 58 = .ok (.iconst 0, 1) := by decide +kernel
theorem dX11_laysWay_59 : decode cX11_laysWay 59 = .ok (.istore 5, 2) := by decide +kernel
theorem dX11_laysWay_61 : decode cX11_laysWay 61 = .ok (.aload_n 0, 1) := by decide +kernel
theorem dX11_laysWay_62 : decode cX11_laysWay 62 = .ok (.getfield 75, 3) := by decide +kernel
theorem dX11_laysWay_65 : decode cX11_laysWay 65 = .ok (.iload 5, 2) := by decide +kernel
theorem dX11_laysWay_67 : decode cX11_laysWay 67 = .ok (.dup2, 1) := by decide +kernel
theorem dX11_laysWay_68 : decode cX11_laysWay 68 = .ok (.iaload, 1) := by decide +kernel
theorem dX11_laysWay_69 : decode cX11_laysWay 69 = .ok (.iconst 1, 1) := by decide +kernel
theorem dX11_laysWay_70 : decode cX11_laysWay 70 = .ok (.iload 4, 2) := by decide +kernel
theorem dX11_laysWay_72 : decode cX11_laysWay 72 = .ok (.ishl, 1) := by decide +kernel
theorem dX11_laysWay_73 : decode cX11_laysWay 73 = .ok (.ior, 1) := by decide +kernel
theorem dX11_laysWay_74 : decode cX11_laysWay 74 = .ok (.iastore, 1) := by decide +kernel
theorem dX11_laysWay_75 : decode cX11_laysWay 75 = .ok (.aload_n 0, 1) := by decide +kernel
theorem dX11_laysWay_76 : decode cX11_laysWay 76 = .ok (.iload_n 2, 1) := by decide +kernel
theorem dX11_laysWay_77 : decode cX11_laysWay 77 = .ok (.invokevirtual 351, 3) := by decide +kernel
theorem dX11_laysWay_80 : decode cX11_laysWay 80 = .ok (.iload_n 3, 1) := by decide +kernel
theorem dX11_laysWay_81 : decode cX11_laysWay 81 = .ok (.if_icmp .eq 39, 3) := by decide +kernel
theorem dX11_laysWay_84 : decode cX11_laysWay 84 = .ok (.aload_n 0, 1) := by decide +kernel
theorem dX11_laysWay_85 : decode cX11_laysWay 85 = .ok (.getfield 75, 3) := by decide +kernel
theorem dX11_laysWay_88 : decode cX11_laysWay 88 = .ok (.iload 5, 2) := by decide +kernel
theorem dX11_laysWay_90 : decode cX11_laysWay 90 = .ok (.dup2, 1) := by decide +kernel
theorem dX11_laysWay_91 : decode cX11_laysWay 91 = .ok (.iaload, 1) := by decide +kernel
theorem dX11_laysWay_92 : decode cX11_laysWay 92 = .ok (.iconst 1, 1) := by decide +kernel
theorem dX11_laysWay_93 : decode cX11_laysWay 93 = .ok (.iload 4, 2) := by decide +kernel
theorem dX11_laysWay_95 : decode cX11_laysWay 95 = .ok (.ishl, 1) := by decide +kernel
theorem dX11_laysWay_96 : decode cX11_laysWay 96 = .ok (.iconst (-1), 1) := by decide +kernel
theorem dX11_laysWay_97 : decode cX11_laysWay 97 = .ok (.ixor, 1) := by decide +kernel
theorem dX11_laysWay_98 : decode cX11_laysWay 98 = .ok (.iand, 1) := by decide +kernel
theorem dX11_laysWay_99 : decode cX11_laysWay 99 = .ok (.iastore, 1) := by decide +kernel
theorem dX11_laysWay_100 : decode cX11_laysWay 100 = .ok (.iinc 5 1, 3) := by decide +kernel
theorem dX11_laysWay_103 : decode cX11_laysWay 103 = .ok (.aload_n 0, 1) := by decide +kernel
theorem dX11_laysWay_104 : decode cX11_laysWay 104 = .ok (.getfield 75, 3) := by decide +kernel
theorem dX11_laysWay_107 : decode cX11_laysWay 107 = .ok (.iload 5, 2) := by decide +kernel
theorem dX11_laysWay_109 : decode cX11_laysWay 109 = .ok (.dup2, 1) := by decide +kernel
theorem dX11_laysWay_110 : decode cX11_laysWay 110 = .ok (.iaload, 1) := by decide +kernel
theorem dX11_laysWay_111 : decode cX11_laysWay 111 = .ok (.iconst 1, 1) := by decide +kernel
theorem dX11_laysWay_112 : decode cX11_laysWay 112 = .ok (.iload 4, 2) := by decide +kernel
theorem dX11_laysWay_114 : decode cX11_laysWay 114 = .ok (.ishl, 1) := by decide +kernel
theorem dX11_laysWay_115 : decode cX11_laysWay 115 = .ok (.ior, 1) := by decide +kernel
theorem dX11_laysWay_116 : decode cX11_laysWay 116 = .ok (.iastore, 1) := by decide +kernel
theorem dX11_laysWay_117 : decode cX11_laysWay 117 = .ok (.goto (-42), 3) := by decide +kernel
theorem dX11_laysWay_120 : decode cX11_laysWay 120 = .ok (.aload_n 0, 1) := by decide +kernel
theorem dX11_laysWay_121 : decode cX11_laysWay 121 = .ok (.getfield 78, 3) := by decide +kernel
theorem dX11_laysWay_124 : decode cX11_laysWay 124 = .ok (.iload 4, 2) := by decide +kernel
theorem dX11_laysWay_126 : decode cX11_laysWay 126 = .ok (.iload 5, 2) := by decide +kernel
theorem dX11_laysWay_128 : decode cX11_laysWay 128 = .ok (.iastore, 1) := by decide +kernel
theorem dX11_laysWay_129 : decode cX11_laysWay 129 = .ok (.iinc 4 1, 3) := by decide +kernel
theorem dX11_laysWay_132 : decode cX11_laysWay 132 = .ok (.goto (-117), 3) := by decide +kernel
theorem dX11_laysWay_135 : decode cX11_laysWay 135 = .ok (.iload_n 3, 1) := by decide +kernel
theorem dX11_laysWay_136 : decode cX11_laysWay 136 = .ok (.ldc_w 338, 3) := by decide +kernel
theorem dX11_laysWay_139 : decode cX11_laysWay 139 = .ok (.if_icmp .ge 7, 3) := by decide +kernel
theorem dX11_laysWay_142 : decode cX11_laysWay 142 = .ok (.iconst 1, 1) := by decide +kernel
theorem dX11_laysWay_143 : decode cX11_laysWay 143 = .ok (.goto 4, 3) := by decide +kernel
theorem dX11_laysWay_146 : decode cX11_laysWay 146 = .ok (.iconst 0, 1) := by decide +kernel
theorem dX11_laysWay_147 : decode cX11_laysWay 147 = .ok (.ireturn, 1) := by decide +kernel
theorem dX11_who_0 : decode cX11_who 0 = .ok (.iload_n 1, 1) := by decide +kernel
theorem dX11_who_1 : decode cX11_who 1 = .ok (.invokestatic 138, 3) := by decide +kernel
theorem dX11_who_4 : decode cX11_who 4 = .ok (.ifCond .eq 10, 3) := by decide +kernel
theorem dX11_who_7 : decode cX11_who 7 = .ok (.iload_n 2, 1) := by decide +kernel
theorem dX11_who_8 : decode cX11_who 8 = .ok (.invokestatic 135, 3) := by decide +kernel
theorem dX11_who_11 : decode cX11_who 11 = .ok (.ifCond .ne 5, 3) := by decide +kernel
theorem dX11_who_14 : decode cX11_who 14 = .ok (.iconst (-1), 1) := by decide +kernel
theorem dX11_who_15 : decode cX11_who 15 = .ok (.ireturn, 1) := by decide +kernel
theorem dX11_who_16 : decode cX11_who 16 = .ok (.aload_n 0, 1) := by decide +kernel
theorem dX11_who_17 : decode cX11_who 17 = .ok (.iload_n 1, 1) := by decide +kernel
theorem dX11_who_18 : decode cX11_who 18 = .ok (.invokevirtual 369, 3) := by decide +kernel
theorem dX11_who_21 : decode cX11_who 21 = .ok (.pop, 1) := by decide +kernel
theorem dX11_who_22 : decode cX11_who 22 = .ok (.aload_n 0, 1) := by decide +kernel
theorem dX11_who_23 : decode cX11_who 23 = .ok (.getfield 78, 3) := by decide +kernel
theorem dX11_who_26 : decode cX11_who 26 = .ok (.iload_n 2, 1) := by decide +kernel
theorem dX11_who_27 : decode cX11_who 27 = .ok (.iaload, 1) := by decide +kernel
theorem dX11_who_28 : decode cX11_who 28 = .ok (.ireturn, 1) := by decide +kernel
theorem dX11_ways_0 : decode cX11_ways 0 = .ok (.iload_n 1, 1) := by decide +kernel
theorem dX11_ways_1 : decode cX11_ways 1 = .ok (.invokestatic 138, 3) := by decide +kernel
theorem dX11_ways_4 : decode cX11_ways 4 = .ok (.ifCond .ne 5, 3) := by decide +kernel
theorem dX11_ways_7 : decode cX11_ways 7 = .ok (.iconst (-1), 1) := by decide +kernel
theorem dX11_ways_8 : decode cX11_ways 8 = .ok (.ireturn, 1) := by decide +kernel
theorem dX11_ways_9 : decode cX11_ways 9 = .ok (.aload_n 0, 1) := by decide +kernel
theorem dX11_ways_10 : decode cX11_ways 10 = .ok (.iload_n 1, 1) := by decide +kernel
theorem dX11_ways_11 : decode cX11_ways 11 = .ok (.invokevirtual 122, 3) := by decide +kernel
theorem dX11_ways_14 : decode cX11_ways 14 = .ok (.istore_n 2, 1) := by decide +kernel
theorem dX11_ways_15 : decode cX11_ways 15 = .ok (.aload_n 0, 1) := by decide +kernel
theorem dX11_ways_16 : decode cX11_ways 16 = .ok (.iload_n 1, 1) := by decide +kernel
theorem dX11_ways_17 : decode cX11_ways 17 = .ok (.iload_n 2, 1) := by decide +kernel
theorem dX11_ways_18 : decode cX11_ways 18 = .ok (.invokevirtual 345, 3) := by decide +kernel
theorem dX11_ways_21 : decode cX11_ways 21 = .ok (.iconst 0, 1) := by decide +kernel
theorem dX11_ways_22 : decode cX11_ways 22 = .ok (.istore_n 3, 1) := by decide +kernel
theorem dX11_ways_23 : decode cX11_ways 23 = .ok (.iload_n 3, 1) := by decide +kernel
theorem dX11_ways_24 : decode cX11_ways 24 = .ok (.sipush 256, 3) := by decide +kernel
theorem dX11_ways_27 : decode cX11_ways 27 = .ok (.if_icmp .ge 33, 3) := by decide +kernel
theorem dX11_ways_30 : decode cX11_ways 30 = .ok (.aload_n 0, 1) := by decide +kernel
theorem dX11_ways_31 : decode cX11_ways 31 = .ok (.getfield 72, 3) := by decide +kernel
theorem dX11_ways_34 : decode cX11_ways 34 = .ok (.sipush 256, 3) := by decide +kernel
theorem dX11_ways_37 : decode cX11_ways 37 = .ok (.aload_n 0, 1) := by decide +kernel
theorem dX11_ways_38 : decode cX11_ways 38 = .ok (.invokevirtual 118, 3) := by decide +kernel
theorem dX11_ways_41 : decode cX11_ways 41 = .ok (.imul, 1) := by decide +kernel
theorem dX11_ways_42 : decode cX11_ways 42 = .ok (.iload_n 3, 1) := by decide +kernel
theorem dX11_ways_43 : decode cX11_ways 43 = .ok (.iadd, 1) := by decide +kernel
theorem dX11_ways_44 : decode cX11_ways 44 = .ok (.iload_n 3, 1) := by decide +kernel
theorem dX11_ways_45 : decode cX11_ways 45 = .ok (.ifCond .ne 7, 3) := by decide +kernel
theorem dX11_ways_48 : decode cX11_ways 48 = .ok (.iconst 1, 1) := by decide +kernel
theorem dX11_ways_49 : decode cX11_ways 49 = .ok (.goto 4, 3) := by decide +kernel
theorem dX11_ways_52 : decode cX11_ways 52 = .ok (.iconst 0, 1) := by decide +kernel
theorem dX11_ways_53 : decode cX11_ways 53 = .ok (.iastore, 1) := by decide +kernel
theorem dX11_ways_54 : decode cX11_ways 54 = .ok (.iinc 3 1, 3) := by decide +kernel
theorem dX11_ways_57 : decode cX11_ways 57 = .ok (.goto (-34), 3) := by decide +kernel
theorem dX11_ways_60 : decode cX11_ways 60 = .ok (.aload_n 0, 1) := by decide +kernel
theorem dX11_ways_61 : decode cX11_ways 61 = .ok (.invokevirtual 118, 3) := by decide +kernel
theorem dX11_ways_64 : decode cX11_ways 64 = .ok (.iconst 1, 1) := by decide +kernel
theorem dX11_ways_65 : decode cX11_ways 65 = .ok (.isub, 1) := by decide +kernel
theorem dX11_ways_66 : decode cX11_ways 66 = .ok (.istore_n 3, 1) := by decide +kernel
theorem dX11_ways_67 : decode cX11_ways 67 = .ok (.iload_n 3, 1) := by decide +kernel
theorem dX11_ways_68 : decode cX11_ways 68 = .ok (.ifCond .lt 125, 3) := by decide +kernel
theorem dX11_ways_71 : decode cX11_ways 71 = .ok (.iconst 0, 1) := by decide +kernel
theorem dX11_ways_72 : decode cX11_ways 72 = .ok (.istore 4, 2) := by decide +kernel
theorem dX11_ways_74 : decode cX11_ways 74 = .ok (.iload 4, 2) := by decide +kernel
theorem dX11_ways_76 : decode cX11_ways 76 = .ok (.sipush 256, 3) := by decide +kernel
theorem dX11_ways_79 : decode cX11_ways 79 = .ok (.if_icmp .ge 108, 3) := by decide +kernel
theorem dX11_ways_82 : decode cX11_ways 82 = .ok (.aload_n 0, 1) := by decide +kernel
theorem dX11_ways_83 : decode cX11_ways 83 = .ok (.getfield 72, 3) := by decide +kernel
theorem dX11_ways_86 : decode cX11_ways 86 = .ok (.sipush 256, 3) := by decide +kernel
theorem dX11_ways_89 : decode cX11_ways 89 = .ok (.iload_n 3, 1) := by decide +kernel
theorem dX11_ways_90 : decode cX11_ways 90 = .ok (.iconst 1, 1) := by decide +kernel
theorem dX11_ways_91 : decode cX11_ways 91 = .ok (.iadd, 1) := by decide +kernel
theorem dX11_ways_92 : decode cX11_ways 92 = .ok (.imul, 1) := by decide +kernel
theorem dX11_ways_93 : decode cX11_ways 93 = .ok (.iload 4, 2) := by decide +kernel
theorem dX11_ways_95 : decode cX11_ways 95 = .ok (.iadd, 1) := by decide +kernel
theorem dX11_ways_96 : decode cX11_ways 96 = .ok (.iaload, 1) := by decide +kernel
theorem dX11_ways_97 : decode cX11_ways 97 = .ok (.istore 5, 2) := by decide +kernel
theorem dX11_ways_99 : decode cX11_ways 99 = .ok (.iload 4, 2) := by decide +kernel
theorem dX11_ways_101 : decode cX11_ways 101 = .ok (.istore 6, 2) := by decide +kernel
theorem dX11_ways_103 : decode cX11_ways 103 = .ok (.iload 6, 2) := by decide +kernel
theorem dX11_ways_105 : decode cX11_ways 105 = .ok (.ifCond .le 61, 3) := by decide +kernel
theorem dX11_ways_108 : decode cX11_ways 108 = .ok (.iload 5, 2) := by decide +kernel
theorem dX11_ways_110 : decode cX11_ways 110 = .ok (.aload_n 0, 1) := by decide +kernel
theorem dX11_ways_111 : decode cX11_ways 111 = .ok (.getfield 66, 3) := by decide +kernel
theorem dX11_ways_114 : decode cX11_ways 114 = .ok (.sipush 256, 3) := by decide +kernel
theorem dX11_ways_117 : decode cX11_ways 117 = .ok (.iload_n 3, 1) := by decide +kernel
theorem dX11_ways_118 : decode cX11_ways 118 = .ok (.imul, 1) := by decide +kernel
theorem dX11_ways_119 : decode cX11_ways 119 = .ok (.iload 6, 2) := by decide +kernel
theorem dX11_ways_121 : decode cX11_ways 121 = .ok (.iadd, 1) := by decide +kernel
theorem dX11_ways_122 : decode cX11_ways 122 = .ok (.iaload, 1) := by decide +kernel
theorem dX11_ways_123 : decode cX11_ways 123 = .ok (.ldc_w 338, 3) := by decide +kernel
theorem dX11_ways_126 : decode cX11_ways 126 = .ok (.if_icmp .ge 24, 3) := by decide +kernel
theorem dX11_ways_129 : decode cX11_ways 129 = .ok (.aload_n 0, 1) := by decide +kernel
theorem dX11_ways_130 : decode cX11_ways 130 = .ok (.getfield 72, 3) := by decide +kernel
theorem dX11_ways_133 : decode cX11_ways 133 = .ok (.sipush 256, 3) := by decide +kernel
theorem dX11_ways_136 : decode cX11_ways 136 = .ok (.iload_n 3, 1) := by decide +kernel
theorem dX11_ways_137 : decode cX11_ways 137 = .ok (.iconst 1, 1) := by decide +kernel
theorem dX11_ways_138 : decode cX11_ways 138 = .ok (.iadd, 1) := by decide +kernel
theorem dX11_ways_139 : decode cX11_ways 139 = .ok (.imul, 1) := by decide +kernel
theorem dX11_ways_140 : decode cX11_ways 140 = .ok (.iload 4, 2) := by decide +kernel
theorem dX11_ways_142 : decode cX11_ways 142 = .ok (.iload 6, 2) := by decide +kernel
theorem dX11_ways_144 : decode cX11_ways 144 = .ok (.ixor, 1) := by decide +kernel
theorem dX11_ways_145 : decode cX11_ways 145 = .ok (.iadd, 1) := by decide +kernel
theorem dX11_ways_146 : decode cX11_ways 146 = .ok (.iaload, 1) := by decide +kernel
theorem dX11_ways_147 : decode cX11_ways 147 = .ok (.goto 4, 3) := by decide +kernel
theorem dX11_ways_150 : decode cX11_ways 150 = .ok (.iconst 0, 1) := by decide +kernel
theorem dX11_ways_151 : decode cX11_ways 151 = .ok (.iadd, 1) := by decide +kernel
theorem dX11_ways_152 : decode cX11_ways 152 = .ok (.istore 5, 2) := by decide +kernel
theorem dX11_ways_154 : decode cX11_ways 154 = .ok (.iload 6, 2) := by decide +kernel
theorem dX11_ways_156 : decode cX11_ways 156 = .ok (.iconst 1, 1) := by decide +kernel
theorem dX11_ways_157 : decode cX11_ways 157 = .ok (.isub, 1) := by decide +kernel
theorem dX11_ways_158 : decode cX11_ways 158 = .ok (.iload 4, 2) := by decide +kernel
theorem dX11_ways_160 : decode cX11_ways 160 = .ok (.iand, 1) := by decide +kernel
theorem dX11_ways_161 : decode cX11_ways 161 = .ok (.istore 6, 2) := by decide +kernel
theorem dX11_ways_163 : decode cX11_ways 163 = .ok (.goto (-60), 3) := by decide +kernel
theorem dX11_ways_166 : decode cX11_ways 166 = .ok (.aload_n 0, 1) := by decide +kernel
theorem dX11_ways_167 : decode cX11_ways 167 = .ok (.getfield 72, 3) := by decide +kernel
theorem dX11_ways_170 : decode cX11_ways 170 = .ok (.sipush 256, 3) := by decide +kernel
theorem dX11_ways_173 : decode cX11_ways 173 = .ok (.iload_n 3, 1) := by decide +kernel
theorem dX11_ways_174 : decode cX11_ways 174 = .ok (.imul, 1) := by decide +kernel
theorem dX11_ways_175 : decode cX11_ways 175 = .ok (.iload 4, 2) := by decide +kernel
theorem dX11_ways_177 : decode cX11_ways 177 = .ok (.iadd, 1) := by decide +kernel
theorem dX11_ways_178 : decode cX11_ways 178 = .ok (.iload 5, 2) := by decide +kernel
theorem dX11_ways_180 : decode cX11_ways 180 = .ok (.iastore, 1) := by decide +kernel
theorem dX11_ways_181 : decode cX11_ways 181 = .ok (.iinc 4 1, 3) := by decide +kernel
theorem dX11_ways_184 : decode cX11_ways 184 = .ok (.goto (-110), 3) := by decide +kernel
theorem dX11_ways_187 : decode cX11_ways 187 = .ok (.iinc 3 (-1), 3) := by decide +kernel
theorem dX11_ways_190 : decode cX11_ways 190 = .ok (.goto (-123), 3) := by decide +kernel
theorem dX11_ways_193 : decode cX11_ways 193 = .ok (.aload_n 0, 1) := by decide +kernel
theorem dX11_ways_194 : decode cX11_ways 194 = .ok (.getfield 72, 3) := by decide +kernel
theorem dX11_ways_197 : decode cX11_ways 197 = .ok (.iload_n 2, 1) := by decide +kernel
theorem dX11_ways_198 : decode cX11_ways 198 = .ok (.iaload, 1) := by decide +kernel
theorem dX11_ways_199 : decode cX11_ways 199 = .ok (.ireturn, 1) := by decide +kernel
