/-! decode rows -/
theorem dX4_read_0 : decode cX4_read 0 = .ok (.aload_n 0, 1) := by decide +kernel
theorem dX4_read_1 : decode cX4_read 1 = .ok (.invokevirtual 38, 3) := by decide +kernel
theorem dX4_read_4 : decode cX4_read 4 = .ok (.aload_n 0, 1) := by decide +kernel
theorem dX4_read_5 : decode cX4_read 5 = .ok (.getfield 34, 3) := by decide +kernel
theorem dX4_read_8 : decode cX4_read 8 = .ok (.iconst 0, 1) := by decide +kernel
theorem dX4_read_9 : decode cX4_read 9 = .ok (.putfield 41, 3) := by decide +kernel
theorem dX4_read_12 : decode cX4_read 12 = .ok (.aload_n 0, 1) := by decide +kernel
theorem dX4_read_13 : decode cX4_read 13 = .ok (.getfield 14, 3) := by decide +kernel
theorem dX4_read_16 : decode cX4_read 16 = .ok (.invokevirtual 46, 3) := by decide +kernel
theorem dX4_read_19 : decode cX4_read 19 = .ok (.aload_n 0, 1) := by decide +kernel
theorem dX4_read_20 : decode cX4_read 20 = .ok (.iload_n 1, 1) := by decide +kernel
theorem dX4_read_21 : decode cX4_read 21 = .ok (.putfield 49, 3) := by decide +kernel
theorem dX4_read_24 : decode cX4_read 24 = .ok (.aload_n 0, 1) := by decide +kernel
theorem dX4_read_25 : decode cX4_read 25 = .ok (.iconst 0, 1) := by decide +kernel
theorem dX4_read_26 : decode cX4_read 26 = .ok (.putfield 53, 3) := by decide +kernel
theorem dX4_read_29 : decode cX4_read 29 = .ok (.aload_n 0, 1) := by decide +kernel
theorem dX4_read_30 : decode cX4_read 30 = .ok (.aload_n 0, 1) := by decide +kernel
theorem dX4_read_31 : decode cX4_read 31 = .ok (.getfield 20, 3) := by decide +kernel
theorem dX4_read_34 : decode cX4_read 34 = .ok (.iconst 0, 1) := by decide +kernel
theorem dX4_read_35 : decode cX4_read 35 = .ok (.iaload, 1) := by decide +kernel
theorem dX4_read_36 : decode cX4_read 36 = .ok (.putfield 56, 3) := by decide +kernel
theorem dX4_read_39 : decode cX4_read 39 = .ok (.aload_n 0, 1) := by decide +kernel
theorem dX4_read_40 : decode cX4_read 40 = .ok (.iconst 0, 1) := by decide +kernel
theorem dX4_read_41 : decode cX4_read 41 = .ok (.putfield 59, 3) := by decide +kernel
theorem dX4_read_44 : decode cX4_read 44 = .ok (.aload_n 0, 1) := by decide +kernel
theorem dX4_read_45 : decode cX4_read 45 = .ok (.iconst 0, 1) := by decide +kernel
theorem dX4_read_46 : decode cX4_read 46 = .ok (.putfield 62, 3) := by decide +kernel
theorem dX4_read_49 : decode cX4_read 49 = .ok (.aload_n 0, 1) := by decide +kernel
theorem dX4_read_50 : decode cX4_read 50 = .ok (.iconst (-1), 1) := by decide +kernel
theorem dX4_read_51 : decode cX4_read 51 = .ok (.putfield 30, 3) := by decide +kernel
theorem dX4_read_54 : decode cX4_read 54 = .ok (.iconst 0, 1) := by decide +kernel
theorem dX4_read_55 : decode cX4_read 55 = .ok (.istore_n 2, 1) := by decide +kernel
theorem dX4_read_56 : decode cX4_read 56 = .ok (.iload_n 2, 1) := by decide +kernel
theorem dX4_read_57 : decode cX4_read 57 = .ok (.bipush 12, 2) := by decide +kernel
theorem dX4_read_59 : decode cX4_read 59 = .ok (.if_icmp .ge 66, 3) := by decide +kernel
theorem dX4_read_62 : decode cX4_read 62 = .ok (.aload_n 0, 1) := by decide +kernel
theorem dX4_read_63 : decode cX4_read 63 = .ok (.getfield 49, 3) := by decide +kernel
theorem dX4_read_66 : decode cX4_read 66 = .ok (.ifCond .eq 11, 3) := by decide +kernel
theorem dX4_read_69 : decode cX4_read 69 = .ok (.aload_n 0, 1) := by decide +kernel
theorem dX4_read_70 : decode cX4_read 70 = .ok (.iload_n 2, 1) := by decide +kernel
theorem dX4_read_71 : decode cX4_read 71 = .ok (.invokevirtual 65, 3) := by decide +kernel
theorem dX4_read_74 : decode cX4_read 74 = .ok (.goto 8, 3) := by decide +kernel
theorem dX4_read_77 : decode cX4_read 77 = .ok (.aload_n 0, 1) := by decide +kernel
theorem dX4_read_78 : decode cX4_read 78 = .ok (.iload_n 2, 1) := by decide +kernel
theorem dX4_read_79 : decode cX4_read 79 = .ok (.invokevirtual 69, 3) := by decide +kernel
theorem dX4_read_82 : decode cX4_read 82 = .ok (.istore_n 3, 1) := by decide +kernel
theorem dX4_read_83 : decode cX4_read 83 = .ok (.iload_n 3, 1) := by decide +kernel
theorem dX4_read_84 : decode cX4_read 84 = .ok (.ifCond .eq 15, 3) := by decide +kernel
theorem dX4_read_87 : decode cX4_read 87 = .ok (.aload_n 0, 1) := by decide +kernel
theorem dX4_read_88 : decode cX4_read 88 = .ok (.getfield 56, 3) := by decide +kernel
theorem dX4_read_91 : decode cX4_read 91 = .ok (.sipush 285, 3) := by decide +kernel
theorem dX4_read_94 : decode cX4_read 94 = .ok (.if_icmp .ne 5, 3) := by decide +kernel
theorem dX4_read_97 : decode cX4_read 97 = .ok (.iconst 1, 1) := by decide +kernel
theorem dX4_read_98 : decode cX4_read 98 = .ok (.ireturn, 1) := by decide +kernel
theorem dX4_read_99 : decode cX4_read 99 = .ok (.iload_n 3, 1) := by decide +kernel
theorem dX4_read_100 : decode cX4_read 100 = .ok (.ifCond .eq 25, 3) := by decide +kernel
theorem dX4_read_103 : decode cX4_read 103 = .ok (.aload_n 0, 1) := by decide +kernel
theorem dX4_read_104 : decode cX4_read 104 = .ok (.getfield 56, 3) := by decide +kernel
theorem dX4_read_107 : decode cX4_read 107 = .ok (.bipush 59, 2) := by decide +kernel
theorem dX4_read_109 : decode cX4_read 109 = .ok (.if_icmp .eq 6, 3) := by decide +kernel
theorem dX4_read_112 : decode cX4_read 112 = .ok (.goto 13, 3) := by decide +kernel
theorem dX4_read_115 : decode cX4_read 115 = .ok (.aload_n 0, 1) := by decide +kernel
theorem dX4_read_116 : decode cX4_read 116 = .ok (.invokevirtual 72, 3) := by decide +kernel
theorem dX4_read_119 : decode cX4_read 119 = .ok (.iinc 2 1, 3) := by decide +kernel
theorem dX4_read_122 : decode cX4_read 122 = .ok (.goto (-66), 3) := by decide +kernel
theorem dX4_read_125 : decode cX4_read 125 = .ok (.aload_n 0, 1) := by decide +kernel
theorem dX4_read_126 : decode cX4_read 126 = .ok (.aload_n 0, 1) := by decide +kernel
theorem dX4_read_127 : decode cX4_read 127 = .ok (.getfield 24, 3) := by decide +kernel
theorem dX4_read_130 : decode cX4_read 130 = .ok (.aload_n 0, 1) := by decide +kernel
theorem dX4_read_131 : decode cX4_read 131 = .ok (.getfield 53, 3) := by decide +kernel
theorem dX4_read_134 : decode cX4_read 134 = .ok (.iaload, 1) := by decide +kernel
theorem dX4_read_135 : decode cX4_read 135 = .ok (.putfield 30, 3) := by decide +kernel
theorem dX4_read_138 : decode cX4_read 138 = .ok (.iconst 0, 1) := by decide +kernel
theorem dX4_read_139 : decode cX4_read 139 = .ok (.ireturn, 1) := by decide +kernel
theorem dX4_splitTape_0 : decode cX4_splitTape 0 = .ok (.aload_n 0, 1) := by decide +kernel
theorem dX4_splitTape_1 : decode cX4_splitTape 1 = .ok (.iconst 0, 1) := by decide +kernel
theorem dX4_splitTape_2 : decode cX4_splitTape 2 = .ok (.putfield 75, 3) := by decide +kernel
theorem dX4_splitTape_5 : decode cX4_splitTape 5 = .ok (.iconst 0, 1) := by decide +kernel
theorem dX4_splitTape_6 : decode cX4_splitTape 6 = .ok (.istore_n 1, 1) := by decide +kernel
theorem dX4_splitTape_7 : decode cX4_splitTape 7 = .ok (.iconst 0, 1) := by decide +kernel
theorem dX4_splitTape_8 : decode cX4_splitTape 8 = .ok (.istore_n 2, 1) := by decide +kernel
theorem dX4_splitTape_9 : decode cX4_splitTape 9 = .ok (.iload_n 2, 1) := by decide +kernel
theorem dX4_splitTape_10 : decode cX4_splitTape 10 = .ok (.sipush 400, 3) := by decide +kernel
theorem dX4_splitTape_13 : decode cX4_splitTape 13 = .ok (.if_icmp .ge 50, 3) := by decide +kernel
theorem dX4_splitTape_16 : decode cX4_splitTape 16 = .ok (.iload_n 1, 1) := by decide +kernel
theorem dX4_splitTape_17 : decode cX4_splitTape 17 = .ok (.aload_n 0, 1) := by decide +kernel
theorem dX4_splitTape_18 : decode cX4_splitTape 18 = .ok (.getfield 34, 3) := by decide +kernel
theorem dX4_splitTape_21 : decode cX4_splitTape 21 = .ok (.getfield 41, 3) := by decide +kernel
theorem dX4_splitTape_24 : decode cX4_splitTape 24 = .ok (.if_icmp .ge 39, 3) := by decide +kernel
theorem dX4_splitTape_27 : decode cX4_splitTape 27 = .ok (.aload_n 0, 1) := by decide +kernel
theorem dX4_splitTape_28 : decode cX4_splitTape 28 = .ok (.getfield 34, 3) := by decide +kernel
theorem dX4_splitTape_31 : decode cX4_splitTape 31 = .ok (.iload_n 1, 1) := by decide +kernel
theorem dX4_splitTape_32 : decode cX4_splitTape 32 = .ok (.invokevirtual 78, 3) := by decide +kernel
theorem dX4_splitTape_35 : decode cX4_splitTape 35 = .ok (.istore_n 3, 1) := by decide +kernel
theorem dX4_splitTape_36 : decode cX4_splitTape 36 = .ok (.aload_n 0, 1) := by decide +kernel
theorem dX4_splitTape_37 : decode cX4_splitTape 37 = .ok (.getfield 34, 3) := by decide +kernel
theorem dX4_splitTape_40 : decode cX4_splitTape 40 = .ok (.iload_n 1, 1) := by decide +kernel
theorem dX4_splitTape_41 : decode cX4_splitTape 41 = .ok (.invokevirtual 82, 3) := by decide +kernel
theorem dX4_splitTape_44 : decode cX4_splitTape 44 = .ok (.bipush 32, 2) := by decide +kernel
theorem dX4_splitTape_46 : decode cX4_splitTape 46 = .ok (.if_icmp .eq 9, 3) := by decide +kernel
theorem dX4_splitTape_49 : decode cX4_splitTape 49 = .ok (.aload_n 0, 1) := by decide +kernel
theorem dX4_splitTape_50 : decode cX4_splitTape 50 = .ok (.iload_n 1, 1) := by decide +kernel
theorem dX4_splitTape_51 : decode cX4_splitTape 51 = .ok (.iload_n 3, 1) := by decide +kernel
theorem dX4_splitTape_52 : decode cX4_splitTape 52 = .ok (.invokevirtual 85, 3) := by decide +kernel
theorem dX4_splitTape_55 : decode cX4_splitTape 55 = .ok (.iload_n 3, 1) := by decide +kernel
theorem dX4_splitTape_56 : decode cX4_splitTape 56 = .ok (.istore_n 1, 1) := by decide +kernel
theorem dX4_splitTape_57 : decode cX4_splitTape 57 = .ok (.iinc 2 1, 3) := by decide +kernel
theorem dX4_splitTape_60 : decode cX4_splitTape 60 = .ok (.goto (-51), 3) := by decide +kernel
theorem dX4_splitTape_63 : decode cX4_splitTape 63 = .ok (.aload_n 0, 1) := by decide +kernel
theorem dX4_splitTape_64 : decode cX4_splitTape 64 = .ok (.getfield 20, 3) := by decide +kernel
theorem dX4_splitTape_67 : decode cX4_splitTape 67 = .ok (.aload_n 0, 1) := by decide +kernel
theorem dX4_splitTape_68 : decode cX4_splitTape 68 = .ok (.getfield 75, 3) := by decide +kernel
theorem dX4_splitTape_71 : decode cX4_splitTape 71 = .ok (.sipush 285, 3) := by decide +kernel
theorem dX4_splitTape_74 : decode cX4_splitTape 74 = .ok (.iastore, 1) := by decide +kernel
theorem dX4_splitTape_75 : decode cX4_splitTape 75 = .ok (.aload_n 0, 1) := by decide +kernel
theorem dX4_splitTape_76 : decode cX4_splitTape 76 = .ok (.getfield 24, 3) := by decide +kernel
theorem dX4_splitTape_79 : decode cX4_splitTape 79 = .ok (.aload_n 0, 1) := by decide +kernel
theorem dX4_splitTape_80 : decode cX4_splitTape 80 = .ok (.getfield 75, 3) := by decide +kernel
theorem dX4_splitTape_83 : decode cX4_splitTape 83 = .ok (.aload_n 0, 1) := by decide +kernel
theorem dX4_splitTape_84 : decode cX4_splitTape 84 = .ok (.getfield 34, 3) := by decide +kernel
theorem dX4_splitTape_87 : decode cX4_splitTape 87 = .ok (.getfield 41, 3) := by decide +kernel
theorem dX4_splitTape_90 : decode cX4_splitTape 90 = .ok (.iastore, 1) := by decide +kernel
theorem dX4_splitTape_91 : decode cX4_splitTape 91 = .ok (.return_, 1) := by decide +kernel
theorem dX4_addToken_0 : decode cX4_addToken 0 = .ok (.aload_n 0, 1) := by decide +kernel
theorem dX4_addToken_1 : decode cX4_addToken 1 = .ok (.getfield 34, 3) := by decide +kernel
theorem dX4_addToken_4 : decode cX4_addToken 4 = .ok (.iload_n 1, 1) := by decide +kernel
theorem dX4_addToken_5 : decode cX4_addToken 5 = .ok (.invokevirtual 82, 3) := by decide +kernel
theorem dX4_addToken_8 : decode cX4_addToken 8 = .ok (.istore_n 3, 1) := by decide +kernel
theorem dX4_addToken_9 : decode cX4_addToken 9 = .ok (.aload_n 0, 1) := by decide +kernel
theorem dX4_addToken_10 : decode cX4_addToken 10 = .ok (.getfield 27, 3) := by decide +kernel
theorem dX4_addToken_13 : decode cX4_addToken 13 = .ok (.aload_n 0, 1) := by decide +kernel
theorem dX4_addToken_14 : decode cX4_addToken 14 = .ok (.getfield 75, 3) := by decide +kernel
theorem dX4_addToken_17 : decode cX4_addToken 17 = .ok (.iconst (-1), 1) := by decide +kernel
theorem dX4_addToken_18 : decode cX4_addToken 18 = .ok (.iastore, 1) := by decide +kernel
theorem dX4_addToken_19 : decode cX4_addToken 19 = .ok (.aload_n 0, 1) := by decide +kernel
theorem dX4_addToken_20 : decode cX4_addToken 20 = .ok (.getfield 20, 3) := by decide +kernel
theorem dX4_addToken_23 : decode cX4_addToken 23 = .ok (.aload_n 0, 1) := by decide +kernel
theorem dX4_addToken_24 : decode cX4_addToken 24 = .ok (.getfield 75, 3) := by decide +kernel
theorem dX4_addToken_27 : decode cX4_addToken 27 = .ok (.iload_n 3, 1) := by decide +kernel
theorem dX4_addToken_28 : decode cX4_addToken 28 = .ok (.iastore, 1) := by decide +kernel
theorem dX4_addToken_29 : decode cX4_addToken 29 = .ok (.iload_n 3, 1) := by decide +kernel
theorem dX4_addToken_30 : decode cX4_addToken 30 = .ok (.invokestatic 88, 3) := by decide +kernel
theorem dX4_addToken_33 : decode cX4_addToken 33 = .ok (.ifCond .eq 36, 3) := by decide +kernel
theorem dX4_addToken_36 : decode cX4_addToken 36 = .ok (.aload_n 0, 1) := by decide +kernel
theorem dX4_addToken_37 : decode cX4_addToken 37 = .ok (.getfield 20, 3) := by decide +kernel
theorem dX4_addToken_40 : decode cX4_addToken 40 = .ok (.aload_n 0, 1) := by decide +kernel
theorem dX4_addToken_41 : decode cX4_addToken 41 = .ok (.getfield 75, 3) := by decide +kernel
theorem dX4_addToken_44 : decode cX4_addToken 44 = .ok (.sipush 284, 3) := by decide +kernel
theorem dX4_addToken_47 : decode cX4_addToken 47 = .ok (.iastore, 1) := by decide +kernel
theorem dX4_addToken_48 : decode cX4_addToken 48 = .ok (.aload_n 0, 1) := by decide +kernel
theorem dX4_addToken_49 : decode cX4_addToken 49 = .ok (.getfield 27, 3) := by decide +kernel
theorem dX4_addToken_52 : decode cX4_addToken 52 = .ok (.aload_n 0, 1) := by decide +kernel
theorem dX4_addToken_53 : decode cX4_addToken 53 = .ok (.getfield 75, 3) := by decide +kernel
theorem dX4_addToken_56 : decode cX4_addToken 56 = .ok (.aload_n 0, 1) := by decide +kernel
theorem dX4_addToken_57 : decode cX4_addToken 57 = .ok (.getfield 34, 3) := by decide +kernel
theorem dX4_addToken_60 : decode cX4_addToken 60 = .ok (.iload_n 1, 1) := by decide +kernel
theorem dX4_addToken_61 : decode cX4_addToken 61 = .ok (.iload_n 2, 1) := by decide +kernel
theorem dX4_addToken_62 : decode cX4_addToken 62 = .ok (.invokevirtual 91, 3) := by decide +kernel
theorem dX4_addToken_65 : decode cX4_addToken 65 = .ok (.iastore, 1) := by decide +kernel
theorem dX4_addToken_66 : decode cX4_addToken 66 = .ok (.goto 28, 3) := by decide +kernel
theorem dX4_addToken_69 : decode cX4_addToken 69 = .ok (.iload_n 3, 1) := by decide +kernel
theorem dX4_addToken_70 : decode cX4_addToken 70 = .ok (.invokestatic 95, 3) := by decide +kernel
theorem dX4_addToken_73 : decode cX4_addToken 73 = .ok (.ifCond .eq 21, 3) := by decide +kernel
theorem dX4_addToken_76 : decode cX4_addToken 76 = .ok (.aload_n 0, 1) := by decide +kernel
theorem dX4_addToken_77 : decode cX4_addToken 77 = .ok (.getfield 20, 3) := by decide +kernel
theorem dX4_addToken_80 : decode cX4_addToken 80 = .ok (.aload_n 0, 1) := by decide +kernel
theorem dX4_addToken_81 : decode cX4_addToken 81 = .ok (.getfield 75, 3) := by decide +kernel
theorem dX4_addToken_84 : decode cX4_addToken 84 = .ok (.aload_n 0, 1) := by decide +kernel
theorem dX4_addToken_85 : decode cX4_addToken 85 = .ok (.getfield 34, 3) := by decide +kernel
theorem dX4_addToken_88 : decode cX4_addToken 88 = .ok (.iload_n 1, 1) := by decide +kernel
theorem dX4_addToken_89 : decode cX4_addToken 89 = .ok (.iload_n 2, 1) := by decide +kernel
theorem dX4_addToken_90 : decode cX4_addToken 90 = .ok (.invokevirtual 98, 3) := by decide +kernel
theorem dX4_addToken_93 : decode cX4_addToken 93 = .ok (.iastore, 1) := by decide +kernel
theorem dX4_addToken_94 : decode cX4_addToken 94 = .ok (.aload_n 0, 1) := by decide +kernel
theorem dX4_addToken_95 : decode cX4_addToken 95 = .ok (.getfield 24, 3) := by decide +kernel
theorem dX4_addToken_98 : decode cX4_addToken 98 = .ok (.aload_n 0, 1) := by decide +kernel
theorem dX4_addToken_99 : decode cX4_addToken 99 = .ok (.getfield 75, 3) := by decide +kernel
theorem dX4_addToken_102 : decode cX4_addToken 102 = .ok (.iload_n 1, 1) := by decide +kernel
theorem dX4_addToken_103 : decode cX4_addToken 103 = .ok (.iastore, 1) := by decide +kernel
theorem dX4_addToken_104 : decode cX4_addToken 104 = .ok (.aload_n 0, 1) := by decide +kernel
theorem dX4_addToken_105 : decode cX4_addToken 105 = .ok (.dup, 1) := by decide +kernel
theorem dX4_addToken_106 : decode cX4_addToken 106 = .ok (.getfield 75, 3) := by decide +kernel
theorem dX4_addToken_109 : decode cX4_addToken 109 = .ok (.iconst 1, 1) := by decide +kernel
theorem dX4_addToken_110 : decode cX4_addToken 110 = .ok (.iadd, 1) := by decide +kernel
theorem dX4_addToken_111 : decode cX4_addToken 111 = .ok (.putfield 75, 3) := by decide +kernel
theorem dX4_addToken_114 : decode cX4_addToken 114 = .ok (.return_, 1) := by decide +kernel
theorem dX4_next_0 : decode cX4_next 0 = .ok (.aload_n 0, 1) := by decide +kernel
theorem dX4_next_1 : decode cX4_next 1 = .ok (.getfield 53, 3) := by decide +kernel
theorem dX4_next_4 : decode cX4_next 4 = .ok (.aload_n 0, 1) := by decide +kernel
theorem dX4_next_5 : decode cX4_next 5 = .ok (.getfield 75, 3) := by decide +kernel
theorem dX4_next_8 : decode cX4_next 8 = .ok (.if_icmp .ge 13, 3) := by decide +kernel
theorem dX4_next_11 : decode cX4_next 11 = .ok (.aload_n 0, 1) := by decide +kernel
theorem dX4_next_12 : decode cX4_next 12 = .ok (.dup, 1) := by decide +kernel
theorem dX4_next_13 : decode cX4_next 13 = .ok (.getfield 53, 3) := by decide +kernel
theorem dX4_next_16 : decode cX4_next 16 = .ok (.iconst 1, 1) := by decide +kernel
theorem dX4_next_17 : decode cX4_next 17 = .ok (.iadd, 1) := by decide +kernel
theorem dX4_next_18 : decode cX4_next 18 = .ok (.putfield 53, 3) := by decide +kernel
theorem dX4_next_21 : decode cX4_next 21 = .ok (.aload_n 0, 1) := by decide +kernel
theorem dX4_next_22 : decode cX4_next 22 = .ok (.aload_n 0, 1) := by decide +kernel
theorem dX4_next_23 : decode cX4_next 23 = .ok (.getfield 20, 3) := by decide +kernel
theorem dX4_next_26 : decode cX4_next 26 = .ok (.aload_n 0, 1) := by decide +kernel
theorem dX4_next_27 : decode cX4_next 27 = .ok (.getfield 53, 3) := by decide +kernel
theorem dX4_next_30 : decode cX4_next 30 = .ok (.iaload, 1) := by decide +kernel
theorem dX4_next_31 : decode cX4_next 31 = .ok (.putfield 56, 3) := by decide +kernel
theorem dX4_next_34 : decode cX4_next 34 = .ok (.return_, 1) := by decide +kernel
theorem dX4_readRule_0 : decode cX4_readRule 0 = .ok (.aload_n 0, 1) := by decide +kernel
theorem dX4_readRule_1 : decode cX4_readRule 1 = .ok (.getfield 56, 3) := by decide +kernel
theorem dX4_readRule_4 : decode cX4_readRule 4 = .ok (.sipush 269, 3) := by decide +kernel
theorem dX4_readRule_7 : decode cX4_readRule 7 = .ok (.if_icmp .lt 13, 3) := by decide +kernel
theorem dX4_readRule_10 : decode cX4_readRule 10 = .ok (.aload_n 0, 1) := by decide +kernel
theorem dX4_readRule_11 : decode cX4_readRule 11 = .ok (.getfield 56, 3) := by decide +kernel
theorem dX4_readRule_14 : decode cX4_readRule 14 = .ok (.sipush 271, 3) := by decide +kernel
theorem dX4_readRule_17 : decode cX4_readRule 17 = .ok (.if_icmp .le 5, 3) := by decide +kernel
theorem dX4_readRule_20 : decode cX4_readRule 20 = .ok (.iconst 0, 1) := by decide +kernel
theorem dX4_readRule_21 : decode cX4_readRule 21 = .ok (.ireturn, 1) := by decide +kernel
theorem dX4_readRule_22 : decode cX4_readRule 22 = .ok (.aload_n 0, 1) := by decide +kernel
theorem dX4_readRule_23 : decode cX4_readRule 23 = .ok (.getfield 56, 3) := by decide +kernel
theorem dX4_readRule_26 : decode cX4_readRule 26 = .ok (.sipush 269, 3) := by decide +kernel
theorem dX4_readRule_29 : decode cX4_readRule 29 = .ok (.isub, 1) := by decide +kernel
theorem dX4_readRule_30 : decode cX4_readRule 30 = .ok (.iconst 4, 1) := by decide +kernel
theorem dX4_readRule_31 : decode cX4_readRule 31 = .ok (.iadd, 1) := by decide +kernel
theorem dX4_readRule_32 : decode cX4_readRule 32 = .ok (.istore_n 2, 1) := by decide +kernel
theorem dX4_readRule_33 : decode cX4_readRule 33 = .ok (.aload_n 0, 1) := by decide +kernel
theorem dX4_readRule_34 : decode cX4_readRule 34 = .ok (.getfield 14, 3) := by decide +kernel
theorem dX4_readRule_37 : decode cX4_readRule 37 = .ok (.iload_n 1, 1) := by decide +kernel
theorem dX4_readRule_38 : decode cX4_readRule 38 = .ok (.iload_n 2, 1) := by decide +kernel
theorem dX4_readRule_39 : decode cX4_readRule 39 = .ok (.invokevirtual 101, 3) := by decide +kernel
theorem dX4_readRule_42 : decode cX4_readRule 42 = .ok (.aload_n 0, 1) := by decide +kernel
theorem dX4_readRule_43 : decode cX4_readRule 43 = .ok (.invokevirtual 72, 3) := by decide +kernel
theorem dX4_readRule_46 : decode cX4_readRule 46 = .ok (.iload_n 2, 1) := by decide +kernel
theorem dX4_readRule_47 : decode cX4_readRule 47 = .ok (.iconst 4, 1) := by decide +kernel
theorem dX4_readRule_48 : decode cX4_readRule 48 = .ok (.if_icmp .ne 37, 3) := by decide +kernel
theorem dX4_readRule_51 : decode cX4_readRule 51 = .ok (.aload_n 0, 1) := by decide +kernel
theorem dX4_readRule_52 : decode cX4_readRule 52 = .ok (.getfield 14, 3) := by decide +kernel
theorem dX4_readRule_55 : decode cX4_readRule 55 = .ok (.getfield 104, 3) := by decide +kernel
theorem dX4_readRule_58 : decode cX4_readRule 58 = .ok (.iload_n 1, 1) := by decide +kernel
theorem dX4_readRule_59 : decode cX4_readRule 59 = .ok (.aload_n 0, 1) := by decide +kernel
theorem dX4_readRule_60 : decode cX4_readRule 60 = .ok (.getfield 14, 3) := by decide +kernel
theorem dX4_readRule_63 : decode cX4_readRule 63 = .ok (.getfield 107, 3) := by decide +kernel
theorem dX4_readRule_66 : decode cX4_readRule 66 = .ok (.iastore, 1) := by decide +kernel
theorem dX4_readRule_67 : decode cX4_readRule 67 = .ok (.aload_n 0, 1) := by decide +kernel
theorem dX4_readRule_68 : decode cX4_readRule 68 = .ok (.invokevirtual 108, 3) := by decide +kernel
theorem dX4_readRule_71 : decode cX4_readRule 71 = .ok (.ifCond .ne 5, 3) := by decide +kernel
theorem dX4_readRule_74 : decode cX4_readRule 74 = .ok (.iconst 0, 1) := by decide +kernel
theorem dX4_readRule_75 : decode cX4_readRule 75 = .ok (.ireturn, 1) := by decide +kernel
theorem dX4_readRule_76 : decode cX4_readRule 76 = .ok (.aload_n 0, 1) := by decide +kernel
theorem dX4_readRule_77 : decode cX4_readRule 77 = .ok (.getfield 14, 3) := by decide +kernel
theorem dX4_readRule_80 : decode cX4_readRule 80 = .ok (.iconst 0, 1) := by decide +kernel
theorem dX4_readRule_81 : decode cX4_readRule 81 = .ok (.iconst 0, 1) := by decide +kernel
theorem dX4_readRule_82 : decode cX4_readRule 82 = .ok (.invokevirtual 112, 3) := by decide +kernel
theorem dX4_readRule_85 : decode cX4_readRule 85 = .ok (.aload_n 0, 1) := by decide +kernel
theorem dX4_readRule_86 : decode cX4_readRule 86 = .ok (.iload_n 1, 1) := by decide +kernel
theorem dX4_readRule_87 : decode cX4_readRule 87 = .ok (.invokevirtual 115, 3) := by decide +kernel
theorem dX4_readRule_90 : decode cX4_readRule 90 = .ok (.ireturn, 1) := by decide +kernel
theorem dX4_readOrder_0 : decode cX4_readOrder 0 = .ok (.aload_n 0, 1) := by decide +kernel
theorem dX4_readOrder_1 : decode cX4_readOrder 1 = .ok (.getfield 56, 3) := by decide +kernel
theorem dX4_readOrder_4 : decode cX4_readOrder 4 = .ok (.sipush 272, 3) := by decide +kernel
theorem dX4_readOrder_7 : decode cX4_readOrder 7 = .ok (.if_icmp .lt 13, 3) := by decide +kernel
theorem dX4_readOrder_10 : decode cX4_readOrder 10 = .ok (.aload_n 0, 1) := by decide +kernel
theorem dX4_readOrder_11 : decode cX4_readOrder 11 = .ok (.getfield 56, 3) := by decide +kernel
theorem dX4_readOrder_14 : decode cX4_readOrder 14 = .ok (.sipush 275, 3) := by decide +kernel
theorem dX4_readOrder_17 : decode cX4_readOrder 17 = .ok (.if_icmp .le 5, 3) := by decide +kernel
theorem dX4_readOrder_20 : decode cX4_readOrder 20 = .ok (.iconst 0, 1) := by decide +kernel
theorem dX4_readOrder_21 : decode cX4_readOrder 21 = .ok (.ireturn, 1) := by decide +kernel
theorem dX4_readOrder_22 : decode cX4_readOrder 22 = .ok (.aload_n 0, 1) := by decide +kernel
theorem dX4_readOrder_23 : decode cX4_readOrder 23 = .ok (.getfield 56, 3) := by decide +kernel
theorem dX4_readOrder_26 : decode cX4_readOrder 26 = .ok (.sipush 272, 3) := by decide +kernel
theorem dX4_readOrder_29 : decode cX4_readOrder 29 = .ok (.isub, 1) := by decide +kernel
theorem dX4_readOrder_30 : decode cX4_readOrder 30 = .ok (.iconst 0, 1) := by decide +kernel
theorem dX4_readOrder_31 : decode cX4_readOrder 31 = .ok (.iadd, 1) := by decide +kernel
theorem dX4_readOrder_32 : decode cX4_readOrder 32 = .ok (.istore_n 2, 1) := by decide +kernel
theorem dX4_readOrder_33 : decode cX4_readOrder 33 = .ok (.aload_n 0, 1) := by decide +kernel
theorem dX4_readOrder_34 : decode cX4_readOrder 34 = .ok (.getfield 14, 3) := by decide +kernel
theorem dX4_readOrder_37 : decode cX4_readOrder 37 = .ok (.iload_n 1, 1) := by decide +kernel
theorem dX4_readOrder_38 : decode cX4_readOrder 38 = .ok (.iload_n 2, 1) := by decide +kernel
theorem dX4_readOrder_39 : decode cX4_readOrder 39 = .ok (.invokevirtual 101, 3) := by decide +kernel
theorem dX4_readOrder_42 : decode cX4_readOrder 42 = .ok (.aload_n 0, 1) := by decide +kernel
theorem dX4_readOrder_43 : decode cX4_readOrder 43 = .ok (.invokevirtual 72, 3) := by decide +kernel
theorem dX4_readOrder_46 : decode cX4_readOrder 46 = .ok (.iload_n 2, 1) := by decide +kernel
theorem dX4_readOrder_47 : decode cX4_readOrder 47 = .ok (.iconst 3, 1) := by decide +kernel
theorem dX4_readOrder_48 : decode cX4_readOrder 48 = .ok (.if_icmp .eq 37, 3) := by decide +kernel
theorem dX4_readOrder_51 : decode cX4_readOrder 51 = .ok (.aload_n 0, 1) := by decide +kernel
theorem dX4_readOrder_52 : decode cX4_readOrder 52 = .ok (.getfield 14, 3) := by decide +kernel
theorem dX4_readOrder_55 : decode cX4_readOrder 55 = .ok (.getfield 104, 3) := by decide +kernel
theorem dX4_readOrder_58 : decode cX4_readOrder 58 = .ok (.iload_n 1, 1) := by decide +kernel
theorem dX4_readOrder_59 : decode cX4_readOrder 59 = .ok (.aload_n 0, 1) := by decide +kernel
theorem dX4_readOrder_60 : decode cX4_readOrder 60 = .ok (.getfield 14, 3) := by decide +kernel
theorem dX4_readOrder_63 : decode cX4_readOrder 63 = .ok (.getfield 107, 3) := by decide +kernel
theorem dX4_readOrder_66 : decode cX4_readOrder 66 = .ok (.iastore, 1) := by decide +kernel
theorem dX4_readOrder_67 : decode cX4_readOrder 67 = .ok (.aload_n 0, 1) := by decide +kernel
theorem dX4_readOrder_68 : decode cX4_readOrder 68 = .ok (.invokevirtual 108, 3) := by decide +kernel
theorem dX4_readOrder_71 : decode cX4_readOrder 71 = .ok (.ifCond .ne 5, 3) := by decide +kernel
theorem dX4_readOrder_74 : decode cX4_readOrder 74 = .ok (.iconst 0, 1) := by decide +kernel
theorem dX4_readOrder_75 : decode cX4_readOrder 75 = .ok (.ireturn, 1) := by decide +kernel
theorem dX4_readOrder_76 : decode cX4_readOrder 76 = .ok (.aload_n 0, 1) := by decide +kernel
theorem dX4_readOrder_77 : decode cX4_readOrder 77 = .ok (.getfield 14, 3) := by decide +kernel
theorem dX4_readOrder_80 : decode cX4_readOrder 80 = .ok (.iconst 0, 1) := by decide +kernel
theorem dX4_readOrder_81 : decode cX4_readOrder 81 = .ok (.iconst 0, 1) := by decide +kernel
theorem dX4_readOrder_82 : decode cX4_readOrder 82 = .ok (.invokevirtual 112, 3) := by decide +kernel
theorem dX4_readOrder_85 : decode cX4_readOrder 85 = .ok (.iload_n 2, 1) := by decide +kernel
theorem dX4_readOrder_86 : decode cX4_readOrder 86 = .ok (.ifCond .eq 8, 3) := by decide +kernel
theorem dX4_readOrder_89 : decode cX4_readOrder 89 = .ok (.iload_n 2, 1) := by decide +kernel
theorem dX4_readOrder_90 : decode cX4_readOrder 90 = .ok (.iconst 1, 1) := by decide +kernel
theorem dX4_readOrder_91 : decode cX4_readOrder 91 = .ok (.if_icmp .ne 63, 3) := by decide +kernel
theorem dX4_readOrder_94 : decode cX4_readOrder 94 = .ok (.aload_n 0, 1) := by decide +kernel
theorem dX4_readOrder_95 : decode cX4_readOrder 95 = .ok (.getfield 56, 3) := by decide +kernel
theorem dX4_readOrder_98 : decode cX4_readOrder 98 = .ok (.iload_n 2, 1) := by decide +kernel
theorem dX4_readOrder_99 : decode cX4_readOrder 99 = .ok (.ifCond .ne 9, 3) := by decide +kernel
theorem dX4_readOrder_102 : decode cX4_readOrder 102 = .ok (.sipush 276, 3) := by decide +kernel
theorem dX4_readOrder_105 : decode cX4_readOrder 105 = .ok (.goto 6, 3) := by decide +kernel
theorem dX4_readOrder_108 : decode cX4_readOrder 108 = .ok (.sipush 277, 3) := by decide +kernel
theorem dX4_readOrder_111 : decode cX4_readOrder 111 = .ok (.if_icmp .eq 5, 3) := by decide +kernel
theorem dX4_readOrder_114 : decode cX4_readOrder 114 = .ok (.iconst 0, 1) := by decide +kernel
theorem dX4_readOrder_115 : decode cX4_readOrder 115 = .ok (.ireturn, 1) := by decide +kernel
theorem dX4_readOrder_116 : decode cX4_readOrder 116 = .ok (.aload_n 0, 1) := by decide +kernel
theorem dX4_readOrder_117 : decode cX4_readOrder 117 = .ok (.invokevirtual 72, 3) := by decide +kernel
theorem dX4_readOrder_120 : decode cX4_readOrder 120 = .ok (.aload_n 0, 1) := by decide +kernel
theorem dX4_readOrder_121 : decode cX4_readOrder 121 = .ok (.getfield 14, 3) := by decide +kernel
theorem dX4_readOrder_124 : decode cX4_readOrder 124 = .ok (.getfield 118, 3) := by decide +kernel
theorem dX4_readOrder_127 : decode cX4_readOrder 127 = .ok (.iload_n 1, 1) := by decide +kernel
theorem dX4_readOrder_128 : decode cX4_readOrder 128 = .ok (.aload_n 0, 1) := by decide +kernel
theorem dX4_readOrder_129 : decode cX4_readOrder 129 = .ok (.getfield 14, 3) := by decide +kernel
theorem dX4_readOrder_132 : decode cX4_readOrder 132 = .ok (.getfield 107, 3) := by decide +kernel
theorem dX4_readOrder_135 : decode cX4_readOrder 135 = .ok (.iastore, 1) := by decide +kernel
theorem dX4_readOrder_136 : decode cX4_readOrder 136 = .ok (.aload_n 0, 1) := by decide +kernel
theorem dX4_readOrder_137 : decode cX4_readOrder 137 = .ok (.invokevirtual 108, 3) := by decide +kernel
theorem dX4_readOrder_140 : decode cX4_readOrder 140 = .ok (.ifCond .ne 5, 3) := by decide +kernel
theorem dX4_readOrder_143 : decode cX4_readOrder 143 = .ok (.iconst 0, 1) := by decide +kernel
theorem dX4_readOrder_144 : decode cX4_readOrder 144 = .ok (.ireturn, 1) := by decide +kernel
theorem dX4_readOrder_145 : decode cX4_readOrder 145 = .ok (.aload_n 0, 1) := by decide +kernel
theorem dX4_readOrder_146 : decode cX4_readOrder 146 = .ok (.getfield 14, 3) := by decide +kernel
theorem dX4_readOrder_149 : decode cX4_readOrder 149 = .ok (.iconst 0, 1) := by decide +kernel
theorem dX4_readOrder_150 : decode cX4_readOrder 150 = .ok (.iconst 0, 1) := by decide +kernel
theorem dX4_readOrder_151 : decode cX4_readOrder 151 = .ok (.invokevirtual 112, 3) := by decide +kernel
theorem dX4_readOrder_154 : decode cX4_readOrder 154 = .ok (.aload_n 0, 1) := by decide +kernel
theorem dX4_readOrder_155 : decode cX4_readOrder 155 = .ok (.iload_n 1, 1) := by decide +kernel
theorem dX4_readOrder_156 : decode cX4_readOrder 156 = .ok (.invokevirtual 121, 3) := by decide +kernel
theorem dX4_readOrder_159 : decode cX4_readOrder 159 = .ok (.ifCond .eq 15, 3) := by decide +kernel
theorem dX4_readOrder_162 : decode cX4_readOrder 162 = .ok (.aload_n 0, 1) := by decide +kernel
theorem dX4_readOrder_163 : decode cX4_readOrder 163 = .ok (.iload_n 1, 1) := by decide +kernel
theorem dX4_readOrder_164 : decode cX4_readOrder 164 = .ok (.invokevirtual 115, 3) := by decide +kernel
theorem dX4_readOrder_167 : decode cX4_readOrder 167 = .ok (.ifCond .eq 7, 3) := by decide +kernel
theorem dX4_readOrder_170 : decode cX4_readOrder 170 = .ok (.iconst 1, 1) := by decide +kernel
theorem dX4_readOrder_171 : decode cX4_readOrder 171 = .ok (.goto 4, 3) := by decide +kernel
theorem dX4_readOrder_174 : decode cX4_readOrder 174 = .ok (.iconst 0, 1) := by decide +kernel
theorem dX4_readOrder_175 : decode cX4_readOrder 175 = .ok (.ireturn, 1) := by decide +kernel
theorem dX4_readTimes_0 : decode cX4_readTimes 0 = .ok (.aload_n 0, 1) := by decide +kernel
theorem dX4_readTimes_1 : decode cX4_readTimes 1 = .ok (.getfield 56, 3) := by decide +kernel
theorem dX4_readTimes_4 : decode cX4_readTimes 4 = .ok (.sipush 278, 3) := by decide +kernel
theorem dX4_readTimes_7 : decode cX4_readTimes 7 = .ok (.if_icmp .eq 5, 3) := by decide +kernel
theorem dX4_readTimes_10 : decode cX4_readTimes 10 = .ok (.iconst 1, 1) := by decide +kernel
theorem dX4_readTimes_11 : decode cX4_readTimes 11 = .ok (.ireturn, 1) := by decide +kernel
theorem dX4_readTimes_12 : decode cX4_readTimes 12 = .ok (.aload_n 0, 1) := by decide +kernel
theorem dX4_readTimes_13 : decode cX4_readTimes 13 = .ok (.invokevirtual 72, 3) := by decide +kernel
theorem dX4_readTimes_16 : decode cX4_readTimes 16 = .ok (.aload_n 0, 1) := by decide +kernel
theorem dX4_readTimes_17 : decode cX4_readTimes 17 = .ok (.getfield 56, 3) := by decide +kernel
theorem dX4_readTimes_20 : decode cX4_readTimes 20 = .ok (.sipush 284, 3) := by decide +kernel
theorem dX4_readTimes_23 : decode cX4_readTimes 23 = .ok (.if_icmp .ne 30, 3) := by decide +kernel
theorem dX4_readTimes_26 : decode cX4_readTimes 26 = .ok (.aload_n 0, 1) := by decide +kernel
theorem dX4_readTimes_27 : decode cX4_readTimes 27 = .ok (.getfield 27, 3) := by decide +kernel
theorem dX4_readTimes_30 : decode cX4_readTimes 30 = .ok (.aload_n 0, 1) := by decide +kernel
theorem dX4_readTimes_31 : decode cX4_readTimes 31 = .ok (.getfield 53, 3) := by decide +kernel
theorem dX4_readTimes_34 : decode cX4_readTimes 34 = .ok (.iaload, 1) := by decide +kernel
theorem dX4_readTimes_35 : decode cX4_readTimes 35 = .ok (.iconst 1, 1) := by decide +kernel
theorem dX4_readTimes_36 : decode cX4_readTimes 36 = .ok (.if_icmp .lt 17, 3) := by decide +kernel
theorem dX4_readTimes_39 : decode cX4_readTimes 39 = .ok (.aload_n 0, 1) := by decide +kernel
theorem dX4_readTimes_40 : decode cX4_readTimes 40 = .ok (.getfield 27, 3) := by decide +kernel
theorem dX4_readTimes_43 : decode cX4_readTimes 43 = .ok (.aload_n 0, 1) := by decide +kernel
theorem dX4_readTimes_44 : decode cX4_readTimes 44 = .ok (.getfield 53, 3) := by decide +kernel
theorem dX4_readTimes_47 : decode cX4_readTimes 47 = .ok (.iaload, 1) := by decide +kernel
theorem dX4_readTimes_48 : decode cX4_readTimes 48 = .ok (.bipush 20, 2) := by decide +kernel
theorem dX4_readTimes_50 : decode cX4_readTimes 50 = .ok (.if_icmp .le 5, 3) := by decide +kernel
theorem dX4_readTimes_53 : decode cX4_readTimes 53 = .ok (.iconst 0, 1) := by decide +kernel
theorem dX4_readTimes_54 : decode cX4_readTimes 54 = .ok (.ireturn, 1) := by decide +kernel
theorem dX4_readTimes_55 : decode cX4_readTimes 55 = .ok (.aload_n 0, 1) := by decide +kernel
theorem dX4_readTimes_56 : decode cX4_readTimes 56 = .ok (.getfield 14, 3) := by decide +kernel
theorem dX4_readTimes_59 : decode cX4_readTimes 59 = .ok (.getfield 124, 3) := by decide +kernel
theorem dX4_readTimes_62 : decode cX4_readTimes 62 = .ok (.iload_n 1, 1) := by decide +kernel
theorem dX4_readTimes_63 : decode cX4_readTimes 63 = .ok (.aload_n 0, 1) := by decide +kernel
theorem dX4_readTimes_64 : decode cX4_readTimes 64 = .ok (.getfield 27, 3) := by decide +kernel
theorem dX4_readTimes_67 : decode cX4_readTimes 67 = .ok (.aload_n 0, 1) := by decide +kernel
theorem dX4_readTimes_68 : decode cX4_readTimes 68 = .ok (.getfield 53, 3) := by decide +kernel
theorem dX4_readTimes_71 : decode cX4_readTimes 71 = .ok (.iaload, 1) := by decide +kernel
theorem dX4_readTimes_72 : decode cX4_readTimes 72 = .ok (.iastore, 1) := by decide +kernel
theorem dX4_readTimes_73 : decode cX4_readTimes 73 = .ok (.aload_n 0, 1) := by decide +kernel
theorem dX4_readTimes_74 : decode cX4_readTimes 74 = .ok (.invokevirtual 72, 3) := by decide +kernel
theorem dX4_readTimes_77 : decode cX4_readTimes 77 = .ok (.iconst 1, 1) := by decide +kernel
theorem dX4_readTimes_78 : decode cX4_readTimes 78 = .ok (.ireturn, 1) := by decide +kernel
theorem dX4_readCondition_0 : decode cX4_readCondition 0 = .ok (.aload_n 0, 1) := by decide +kernel
theorem dX4_readCondition_1 : decode cX4_readCondition 1 = .ok (.getfield 56, 3) := by decide +kernel
theorem dX4_readCondition_4 : decode cX4_readCondition 4 = .ok (.sipush 279, 3) := by decide +kernel
theorem dX4_readCondition_7 : decode cX4_readCondition 7 = .ok (.if_icmp .eq 5, 3) := by decide +kernel
theorem dX4_readCondition_10 : decode cX4_readCondition 10 = .ok (.iconst 1, 1) := by decide +kernel
theorem dX4_readCondition_11 : decode cX4_readCondition 11 = .ok (.ireturn, 1) := by decide +kernel
theorem dX4_readCondition_12 : decode cX4_readCondition 12 = .ok (.aload_n 0, 1) := by decide +kernel
theorem dX4_readCondition_13 : decode cX4_readCondition 13 = .ok (.invokevirtual 72, 3) := by decide +kernel
theorem dX4_readCondition_16 : decode cX4_readCondition 16 = .ok (.aload_n 0, 1) := by decide +kernel
theorem dX4_readCondition_17 : decode cX4_readCondition 17 = .ok (.getfield 14, 3) := by decide +kernel
theorem dX4_readCondition_20 : decode cX4_readCondition 20 = .ok (.getfield 127, 3) := by decide +kernel
theorem dX4_readCondition_23 : decode cX4_readCondition 23 = .ok (.iload_n 1, 1) := by decide +kernel
theorem dX4_readCondition_24 : decode cX4_readCondition 24 = .ok (.aload_n 0, 1) := by decide +kernel
theorem dX4_readCondition_25 : decode cX4_readCondition 25 = .ok (.getfield 14, 3) := by decide +kernel
theorem dX4_readCondition_28 : decode cX4_readCondition 28 = .ok (.getfield 107, 3) := by decide +kernel
theorem dX4_readCondition_31 : decode cX4_readCondition 31 = .ok (.iastore, 1) := by decide +kernel
theorem dX4_readCondition_32 : decode cX4_readCondition 32 = .ok (.aload_n 0, 1) := by decide +kernel
theorem dX4_readCondition_33 : decode cX4_readCondition 33 = .ok (.invokevirtual 130, 3) := by decide +kernel
theorem dX4_readCondition_36 : decode cX4_readCondition 36 = .ok (.ifCond .ne 5, 3) := by decide +kernel
theorem dX4_readCondition_39 : decode cX4_readCondition 39 = .ok (.iconst 0, 1) := by decide +kernel
theorem dX4_readCondition_40 : decode cX4_readCondition 40 = .ok (.ireturn, 1) := by decide +kernel
theorem dX4_readCondition_41 : decode cX4_readCondition 41 = .ok (.aload_n 0, 1) := by decide +kernel
theorem dX4_readCondition_42 : decode cX4_readCondition 42 = .ok (.getfield 14, 3) := by decide +kernel
theorem dX4_readCondition_45 : decode cX4_readCondition 45 = .ok (.iconst 0, 1) := by decide +kernel
theorem dX4_readCondition_46 : decode cX4_readCondition 46 = .ok (.iconst 0, 1) := by decide +kernel
theorem dX4_readCondition_47 : decode cX4_readCondition 47 = .ok (.invokevirtual 112, 3) := by decide +kernel
theorem dX4_readCondition_50 : decode cX4_readCondition 50 = .ok (.iconst 1, 1) := by decide +kernel
theorem dX4_readCondition_51 : decode cX4_readCondition 51 = .ok (.ireturn, 1) := by decide +kernel
theorem dX4_test_0 : decode cX4_test 0 = .ok (.aload_n 0, 1) := by decide +kernel
theorem dX4_test_1 : decode cX4_test 1 = .ok (.invokevirtual 132, 3) := by decide +kernel
theorem dX4_test_4 : decode cX4_test 4 = .ok (.ifCond .ne 5, 3) := by decide +kernel
theorem dX4_test_7 : decode cX4_test 7 = .ok (.iconst 0, 1) := by decide +kernel
theorem dX4_test_8 : decode cX4_test 8 = .ok (.ireturn, 1) := by decide +kernel
theorem dX4_test_9 : decode cX4_test 9 = .ok (.iconst 0, 1) := by decide +kernel
theorem dX4_test_10 : decode cX4_test 10 = .ok (.istore_n 1, 1) := by decide +kernel
theorem dX4_test_11 : decode cX4_test 11 = .ok (.iload_n 1, 1) := by decide +kernel
theorem dX4_test_12 : decode cX4_test 12 = .ok (.sipush 400, 3) := by decide +kernel
theorem dX4_test_15 : decode cX4_test 15 = .ok (.if_icmp .ge 58, 3) := by decide +kernel
theorem dX4_test_18 : decode cX4_test 18 = .ok (.aload_n 0, 1) := by decide +kernel
theorem dX4_test_19 : decode cX4_test 19 = .ok (.getfield 56, 3) := by decide +kernel
theorem dX4_test_22 : decode cX4_test 22 = .ok (.sipush 281, 3) := by decide +kernel
theorem dX4_test_25 : decode cX4_test 25 = .ok (.if_icmp .ne 48, 3) := by decide +kernel
theorem dX4_test_28 : decode cX4_test 28 = .ok (.aload_n 0, 1) := by decide +kernel
theorem dX4_test_29 : decode cX4_test 29 = .ok (.getfield 14, 3) := by decide +kernel
theorem dX4_test_32 : decode cX4_test 32 = .ok (.getfield 107, 3) := by decide +kernel
theorem dX4_test_35 : decode cX4_test 35 = .ok (.istore_n 2, 1) := by decide +kernel
theorem dX4_test_36 : decode cX4_test 36 = .ok (.aload_n 0, 1) := by decide +kernel
theorem dX4_test_37 : decode cX4_test 37 = .ok (.getfield 14, 3) := by decide +kernel
theorem dX4_test_40 : decode cX4_test 40 = .ok (.bipush 13, 2) := by decide +kernel
theorem dX4_test_42 : decode cX4_test 42 = .ok (.iconst 0, 1) := by decide +kernel
theorem dX4_test_43 : decode cX4_test 43 = .ok (.invokevirtual 112, 3) := by decide +kernel
theorem dX4_test_46 : decode cX4_test 46 = .ok (.aload_n 0, 1) := by decide +kernel
theorem dX4_test_47 : decode cX4_test 47 = .ok (.invokevirtual 72, 3) := by decide +kernel
theorem dX4_test_50 : decode cX4_test 50 = .ok (.aload_n 0, 1) := by decide +kernel
theorem dX4_test_51 : decode cX4_test 51 = .ok (.invokevirtual 132, 3) := by decide +kernel
theorem dX4_test_54 : decode cX4_test 54 = .ok (.ifCond .ne 5, 3) := by decide +kernel
theorem dX4_test_57 : decode cX4_test 57 = .ok (.iconst 0, 1) := by decide +kernel
theorem dX4_test_58 : decode cX4_test 58 = .ok (.ireturn, 1) := by decide +kernel
theorem dX4_test_59 : decode cX4_test 59 = .ok (.aload_n 0, 1) := by decide +kernel
theorem dX4_test_60 : decode cX4_test 60 = .ok (.getfield 14, 3) := by decide +kernel
theorem dX4_test_63 : decode cX4_test 63 = .ok (.iload_n 2, 1) := by decide +kernel
theorem dX4_test_64 : decode cX4_test 64 = .ok (.invokevirtual 135, 3) := by decide +kernel
theorem dX4_test_67 : decode cX4_test 67 = .ok (.iinc 1 1, 3) := by decide +kernel
theorem dX4_test_70 : decode cX4_test 70 = .ok (.goto (-59), 3) := by decide +kernel
theorem dX4_test_73 : decode cX4_test 73 = .ok (.iconst 1, 1) := by decide +kernel
theorem dX4_test_74 : decode cX4_test 74 = .ok (.ireturn, 1) := by decide +kernel
theorem dX4_both_0 : decode cX4_both 0 = .ok (.aload_n 0, 1) := by decide +kernel
theorem dX4_both_1 : decode cX4_both 1 = .ok (.invokevirtual 139, 3) := by decide +kernel
theorem dX4_both_4 : decode cX4_both 4 = .ok (.ifCond .ne 5, 3) := by decide +kernel
theorem dX4_both_7 : decode cX4_both 7 = .ok (.iconst 0, 1) := by decide +kernel
theorem dX4_both_8 : decode cX4_both 8 = .ok (.ireturn, 1) := by decide +kernel
theorem dX4_both_9 : decode cX4_both 9 = .ok (.iconst 0, 1) := by decide +kernel
theorem dX4_both_10 : decode cX4_both 10 = .ok (.istore_n 1, 1) := by decide +kernel
theorem dX4_both_11 : decode cX4_both 11 = .ok (.iload_n 1, 1) := by decide +kernel
theorem dX4_both_12 : decode cX4_both 12 = .ok (.sipush 400, 3) := by decide +kernel
theorem dX4_both_15 : decode cX4_both 15 = .ok (.if_icmp .ge 58, 3) := by decide +kernel
theorem dX4_both_18 : decode cX4_both 18 = .ok (.aload_n 0, 1) := by decide +kernel
theorem dX4_both_19 : decode cX4_both 19 = .ok (.getfield 56, 3) := by decide +kernel
theorem dX4_both_22 : decode cX4_both 22 = .ok (.sipush 280, 3) := by decide +kernel
theorem dX4_both_25 : decode cX4_both 25 = .ok (.if_icmp .ne 48, 3) := by decide +kernel
theorem dX4_both_28 : decode cX4_both 28 = .ok (.aload_n 0, 1) := by decide +kernel
theorem dX4_both_29 : decode cX4_both 29 = .ok (.getfield 14, 3) := by decide +kernel
theorem dX4_both_32 : decode cX4_both 32 = .ok (.getfield 107, 3) := by decide +kernel
theorem dX4_both_35 : decode cX4_both 35 = .ok (.istore_n 2, 1) := by decide +kernel
theorem dX4_both_36 : decode cX4_both 36 = .ok (.aload_n 0, 1) := by decide +kernel
theorem dX4_both_37 : decode cX4_both 37 = .ok (.getfield 14, 3) := by decide +kernel
theorem dX4_both_40 : decode cX4_both 40 = .ok (.bipush 12, 2) := by decide +kernel
theorem dX4_both_42 : decode cX4_both 42 = .ok (.iconst 0, 1) := by decide +kernel
theorem dX4_both_43 : decode cX4_both 43 = .ok (.invokevirtual 112, 3) := by decide +kernel
theorem dX4_both_46 : decode cX4_both 46 = .ok (.aload_n 0, 1) := by decide +kernel
theorem dX4_both_47 : decode cX4_both 47 = .ok (.invokevirtual 72, 3) := by decide +kernel
theorem dX4_both_50 : decode cX4_both 50 = .ok (.aload_n 0, 1) := by decide +kernel
theorem dX4_both_51 : decode cX4_both 51 = .ok (.invokevirtual 139, 3) := by decide +kernel
theorem dX4_both_54 : decode cX4_both 54 = .ok (.ifCond .ne 5, 3) := by decide +kernel
theorem dX4_both_57 : decode cX4_both 57 = .ok (.iconst 0, 1) := by decide +kernel
theorem dX4_both_58 : decode cX4_both 58 = .ok (.ireturn, 1) := by decide +kernel
theorem dX4_both_59 : decode cX4_both 59 = .ok (.aload_n 0, 1) := by decide +kernel
theorem dX4_both_60 : decode cX4_both 60 = .ok (.getfield 14, 3) := by decide +kernel
theorem dX4_both_63 : decode cX4_both 63 = .ok (.iload_n 2, 1) := by decide +kernel
theorem dX4_both_64 : decode cX4_both 64 = .ok (.invokevirtual 135, 3) := by decide +kernel
theorem dX4_both_67 : decode cX4_both 67 = .ok (.iinc 1 1, 3) := by decide +kernel
theorem dX4_both_70 : decode cX4_both 70 = .ok (.goto (-59), 3) := by decide +kernel
theorem dX4_both_73 : decode cX4_both 73 = .ok (.iconst 1, 1) := by decide +kernel
theorem dX4_both_74 : decode cX4_both 74 = .ok (.ireturn, 1) := by decide +kernel
theorem dX4_plain_0 : decode cX4_plain 0 = .ok (.iconst 0, 1) := by decide +kernel
theorem dX4_plain_1 : decode cX4_plain 1 = .ok (.istore_n 1, 1) := by decide +kernel
theorem dX4_plain_2 : decode cX4_plain 2 = .ok (.iconst 0, 1) := by decide +kernel
theorem dX4_plain_3 : decode cX4_plain 3 = .ok (.istore_n 2, 1) := by decide +kernel
theorem dX4_plain_4 : decode cX4_plain 4 = .ok (.iload_n 2, 1) := by decide +kernel
theorem dX4_plain_5 : decode cX4_plain 5 = .ok (.sipush 400, 3) := by decide +kernel
theorem dX4_plain_8 : decode cX4_plain 8 = .ok (.if_icmp .ge 33, 3) := by decide +kernel
theorem dX4_plain_11 : decode cX4_plain 11 = .ok (.aload_n 0, 1) := by decide +kernel
theorem dX4_plain_12 : decode cX4_plain 12 = .ok (.getfield 56, 3) := by decide +kernel
theorem dX4_plain_15 : decode cX4_plain 15 = .ok (.sipush 282, 3) := by decide +kernel
theorem dX4_plain_18 : decode cX4_plain 18 = .ok (.if_icmp .ne 23, 3) := by decide +kernel
theorem dX4_plain_21 : decode cX4_plain 21 = .ok (.iload_n 1, 1) := by decide +kernel
theorem dX4_plain_22 : decode cX4_plain 22 = .ok (.ifCond .ne 7, 3) := by decide +kernel
theorem dX4_plain_25 : decode cX4_plain 25 = .ok (.iconst 1, 1) := by decide +kernel
theorem dX4_plain_26 : decode cX4_plain 26 = .ok (.goto 4, 3) := by decide +kernel
theorem dX4_plain_29 : decode cX4_plain 29 = .ok (.iconst 0, 1) := by decide +kernel
theorem dX4_plain_30 : decode cX4_plain 30 = .ok (.istore_n 1, 1) := by decide +kernel
theorem dX4_plain_31 : decode cX4_plain 31 = .ok (.aload_n 0, 1) := by decide +kernel
theorem dX4_plain_32 : decode cX4_plain 32 = .ok (.invokevirtual 72, 3) := by decide +kernel
theorem dX4_plain_35 : decode cX4_plain 35 = .ok (.iinc 2 1, 3) := by decide +kernel
theorem dX4_plain_38 : decode cX4_plain 38 = .ok (.goto (-34), 3) := by decide +kernel
theorem dX4_plain_41 : decode cX4_plain 41 = .ok (.aload_n 0, 1) := by decide +kernel
theorem dX4_plain_42 : decode cX4_plain 42 = .ok (.getfield 56, 3) := by decide +kernel
theorem dX4_plain_45 : decode cX4_plain 45 = .ok (.bipush 40, 2) := by decide +kernel
theorem dX4_plain_47 : decode cX4_plain 47 = .ok (.if_icmp .ne 63, 3) := by decide +kernel
theorem dX4_plain_50 : decode cX4_plain 50 = .ok (.aload_n 0, 1) := by decide +kernel
theorem dX4_plain_51 : decode cX4_plain 51 = .ok (.getfield 62, 3) := by decide +kernel
theorem dX4_plain_54 : decode cX4_plain 54 = .ok (.bipush 8, 2) := by decide +kernel
theorem dX4_plain_56 : decode cX4_plain 56 = .ok (.if_icmp .lt 5, 3) := by decide +kernel
theorem dX4_plain_59 : decode cX4_plain 59 = .ok (.iconst 0, 1) := by decide +kernel
theorem dX4_plain_60 : decode cX4_plain 60 = .ok (.ireturn, 1) := by decide +kernel
theorem dX4_plain_61 : decode cX4_plain 61 = .ok (.aload_n 0, 1) := by decide +kernel
theorem dX4_plain_62 : decode cX4_plain 62 = .ok (.dup, 1) := by decide +kernel
theorem dX4_plain_63 : decode cX4_plain 63 = .ok (.getfield 62, 3) := by decide +kernel
theorem dX4_plain_66 : decode cX4_plain 66 = .ok (.iconst 1, 1) := by decide +kernel
theorem dX4_plain_67 : decode cX4_plain 67 = .ok (.iadd, 1) := by decide +kernel
theorem dX4_plain_68 : decode cX4_plain 68 = .ok (.putfield 62, 3) := by decide +kernel
theorem dX4_plain_71 : decode cX4_plain 71 = .ok (.aload_n 0, 1) := by decide +kernel
theorem dX4_plain_72 : decode cX4_plain 72 = .ok (.invokevirtual 72, 3) := by decide +kernel
theorem dX4_plain_75 : decode cX4_plain 75 = .ok (.aload_n 0, 1) := by decide +kernel
theorem dX4_plain_76 : decode cX4_plain 76 = .ok (.invokevirtual 130, 3) := by decide +kernel
theorem dX4_plain_79 : decode cX4_plain 79 = .ok (.ifCond .eq 12, 3) := by decide +kernel
theorem dX4_plain_82 : decode cX4_plain 82 = .ok (.aload_n 0, 1) := by decide +kernel
theorem dX4_plain_83 : decode cX4_plain 83 = .ok (.getfield 56, 3) := by decide +kernel
theorem dX4_plain_86 : decode cX4_plain 86 = .ok (.bipush 41, 2) := by decide +kernel
theorem dX4_plain_88 : decode cX4_plain 88 = .ok (.if_icmp .eq 5, 3) := by decide +kernel
theorem dX4_plain_91 : decode cX4_plain 91 = .ok (.iconst 0, 1) := by decide +kernel
theorem dX4_plain_92 : decode cX4_plain 92 = .ok (.ireturn, 1) := by decide +kernel
theorem dX4_plain_93 : decode cX4_plain 93 = .ok (.aload_n 0, 1) := by decide +kernel
theorem dX4_plain_94 : decode cX4_plain 94 = .ok (.dup, 1) := by decide +kernel
theorem dX4_plain_95 : decode cX4_plain 95 = .ok (.getfield 62, 3) := by decide +kernel
theorem dX4_plain_98 : decode cX4_plain 98 = .ok (.iconst 1, 1) := by decide +kernel
theorem dX4_plain_99 : decode cX4_plain 99 = .ok (.isub, 1) := by decide +kernel
theorem dX4_plain_100 : decode cX4_plain 100 = .ok (.putfield 62, 3) := by decide +kernel
theorem dX4_plain_103 : decode cX4_plain 103 = .ok (.aload_n 0, 1) := by decide +kernel
theorem dX4_plain_104 : decode cX4_plain 104 = .ok (.invokevirtual 72, 3) := by decide +kernel
theorem dX4_plain_107 : decode cX4_plain 107 = .ok (.goto 69, 3) := by decide +kernel
theorem dX4_plain_110 : decode cX4_plain 110 = .ok (.aload_n 0, 1) := by decide +kernel
theorem dX4_plain_111 : decode cX4_plain 111 = .ok (.invokevirtual 108, 3) := by decide +kernel
theorem dX4_plain_114 : decode cX4_plain 114 = .ok (.ifCond .eq 30, 3) := by decide +kernel
theorem dX4_plain_117 : decode cX4_plain 117 = .ok (.aload_n 0, 1) := by decide +kernel
theorem dX4_plain_118 : decode cX4_plain 118 = .ok (.getfield 56, 3) := by decide +kernel
theorem dX4_plain_121 : decode cX4_plain 121 = .ok (.bipush 60, 2) := by decide +kernel
theorem dX4_plain_123 : decode cX4_plain 123 = .ok (.if_icmp .eq 23, 3) := by decide +kernel
theorem dX4_plain_126 : decode cX4_plain 126 = .ok (.aload_n 0, 1) := by decide +kernel
theorem dX4_plain_127 : decode cX4_plain 127 = .ok (.getfield 56, 3) := by decide +kernel
theorem dX4_plain_130 : decode cX4_plain 130 = .ok (.bipush 62, 2) := by decide +kernel
theorem dX4_plain_132 : decode cX4_plain 132 = .ok (.if_icmp .eq 14, 3) := by decide +kernel
theorem dX4_plain_135 : decode cX4_plain 135 = .ok (.aload_n 0, 1) := by decide +kernel
theorem dX4_plain_136 : decode cX4_plain 136 = .ok (.getfield 56, 3) := by decide +kernel
theorem dX4_plain_139 : decode cX4_plain 139 = .ok (.bipush 61, 2) := by decide +kernel
theorem dX4_plain_141 : decode cX4_plain 141 = .ok (.if_icmp .eq 5, 3) := by decide +kernel
theorem dX4_plain_144 : decode cX4_plain 144 = .ok (.iconst 0, 1) := by decide +kernel
theorem dX4_plain_145 : decode cX4_plain 145 = .ok (.ireturn, 1) := by decide +kernel
theorem dX4_plain_146 : decode cX4_plain 146 = .ok (.aload_n 0, 1) := by decide +kernel
theorem dX4_plain_147 : decode cX4_plain 147 = .ok (.getfield 56, 3) := by decide +kernel
theorem dX4_plain_150 : decode cX4_plain 150 = .ok (.invokestatic 142, 3) := by decide +kernel
theorem dX4_plain_153 : decode cX4_plain 153 = .ok (.istore_n 2, 1) := by decide +kernel
theorem dX4_plain_154 : decode cX4_plain 154 = .ok (.aload_n 0, 1) := by decide +kernel
theorem dX4_plain_155 : decode cX4_plain 155 = .ok (.invokevirtual 72, 3) := by decide +kernel
theorem dX4_plain_158 : decode cX4_plain 158 = .ok (.aload_n 0, 1) := by decide +kernel
theorem dX4_plain_159 : decode cX4_plain 159 = .ok (.invokevirtual 108, 3) := by decide +kernel
theorem dX4_plain_162 : decode cX4_plain 162 = .ok (.ifCond .ne 5, 3) := by decide +kernel
theorem dX4_plain_165 : decode cX4_plain 165 = .ok (.iconst 0, 1) := by decide +kernel
theorem dX4_plain_166 : decode cX4_plain 166 = .ok (.ireturn, 1) := by decide +kernel
theorem dX4_plain_167 : decode cX4_plain 167 = .ok (.aload_n 0, 1) := by decide +kernel
theorem dX4_plain_168 : decode cX4_plain 168 = .ok (.getfield 14, 3) := by decide +kernel
theorem dX4_plain_171 : decode cX4_plain 171 = .ok (.iload_n 2, 1) := by decide +kernel
theorem dX4_plain_172 : decode cX4_plain 172 = .ok (.iconst 0, 1) := by decide +kernel
theorem dX4_plain_173 : decode cX4_plain 173 = .ok (.invokevirtual 112, 3) := by decide +kernel
theorem dX4_plain_176 : decode cX4_plain 176 = .ok (.iload_n 1, 1) := by decide +kernel
theorem dX4_plain_177 : decode cX4_plain 177 = .ok (.ifCond .eq 13, 3) := by decide +kernel
theorem dX4_plain_180 : decode cX4_plain 180 = .ok (.aload_n 0, 1) := by decide +kernel
theorem dX4_plain_181 : decode cX4_plain 181 = .ok (.getfield 14, 3) := by decide +kernel
theorem dX4_plain_184 : decode cX4_plain 184 = .ok (.bipush 11, 2) := by decide +kernel
theorem dX4_plain_186 : decode cX4_plain 186 = .ok (.iconst 0, 1) := by decide +kernel
theorem dX4_plain_187 : decode cX4_plain 187 = .ok (.invokevirtual 112, 3) := by decide +kernel
theorem dX4_plain_190 : decode cX4_plain 190 = .ok (.iconst 1, 1) := by decide +kernel
theorem dX4_plain_191 : decode cX4_plain 191 = .ok (.ireturn, 1) := by decide +kernel
theorem dX4_sum_0 : decode cX4_sum 0 = .ok (.aload_n 0, 1) := by decide +kernel
theorem dX4_sum_1 : decode cX4_sum 1 = .ok (.invokevirtual 145, 3) := by decide +kernel
theorem dX4_sum_4 : decode cX4_sum 4 = .ok (.ifCond .ne 5, 3) := by decide +kernel
theorem dX4_sum_7 : decode cX4_sum 7 = .ok (.iconst 0, 1) := by decide +kernel
theorem dX4_sum_8 : decode cX4_sum 8 = .ok (.ireturn, 1) := by decide +kernel
theorem dX4_sum_9 : decode cX4_sum 9 = .ok (.iconst 0, 1) := by decide +kernel
theorem dX4_sum_10 : decode cX4_sum 10 = .ok (.istore_n 1, 1) := by decide +kernel
theorem dX4_sum_11 : decode cX4_sum 11 = .ok (.iload_n 1, 1) := by decide +kernel
theorem dX4_sum_12 : decode cX4_sum 12 = .ok (.sipush 400, 3) := by decide +kernel
theorem dX4_sum_15 : decode cX4_sum 15 = .ok (.if_icmp .ge 64, 3) := by decide +kernel
theorem dX4_sum_18 : decode cX4_sum 18 = .ok (.aload_n 0, 1) := by decide +kernel
theorem dX4_sum_19 : decode cX4_sum 19 = .ok (.getfield 56, 3) := by decide +kernel
theorem dX4_sum_22 : decode cX4_sum 22 = .ok (.bipush 43, 2) := by decide +kernel
theorem dX4_sum_24 : decode cX4_sum 24 = .ok (.if_icmp .eq 12, 3) := by decide +kernel
theorem dX4_sum_27 : decode cX4_sum 27 = .ok (.aload_n 0, 1) := by decide +kernel
theorem dX4_sum_28 : decode cX4_sum 28 = .ok (.getfield 56, 3) := by decide +kernel
theorem dX4_sum_31 : decode cX4_sum 31 = .ok (.bipush 45, 2) := by decide +kernel
theorem dX4_sum_33 : decode cX4_sum 33 = .ok (.if_icmp .ne 46, 3) := by decide +kernel
theorem dX4_sum_36 : decode cX4_sum 36 = .ok (.aload_n 0, 1) := by decide +kernel
theorem dX4_sum_37 : decode cX4_sum 37 = .ok (.getfield 56, 3) := by decide +kernel
theorem dX4_sum_40 : decode cX4_sum 40 = .ok (.bipush 43, 2) := by decide +kernel
theorem dX4_sum_42 : decode cX4_sum 42 = .ok (.if_icmp .ne 7, 3) := by decide +kernel
theorem dX4_sum_45 : decode cX4_sum 45 = .ok (.iconst 3, 1) := by decide +kernel
theorem dX4_sum_46 : decode cX4_sum 46 = .ok (.goto 4, 3) := by decide +kernel
theorem dX4_sum_49 : decode cX4_sum 49 = .ok (.iconst 4, 1) := by decide +kernel
theorem dX4_sum_50 : decode cX4_sum 50 = .ok (.istore_n 2, 1) := by decide +kernel
theorem dX4_sum_51 : decode cX4_sum 51 = .ok (.aload_n 0, 1) := by decide +kernel
theorem dX4_sum_52 : decode cX4_sum 52 = .ok (.invokevirtual 72, 3) := by decide +kernel
theorem dX4_sum_55 : decode cX4_sum 55 = .ok (.aload_n 0, 1) := by decide +kernel
theorem dX4_sum_56 : decode cX4_sum 56 = .ok (.invokevirtual 145, 3) := by decide +kernel
theorem dX4_sum_59 : decode cX4_sum 59 = .ok (.ifCond .ne 5, 3) := by decide +kernel
theorem dX4_sum_62 : decode cX4_sum 62 = .ok (.iconst 0, 1) := by decide +kernel
theorem dX4_sum_63 : decode cX4_sum 63 = .ok (.ireturn, 1) := by decide +kernel
theorem dX4_sum_64 : decode cX4_sum 64 = .ok (.aload_n 0, 1) := by decide +kernel
theorem dX4_sum_65 : decode cX4_sum 65 = .ok (.getfield 14, 3) := by decide +kernel
theorem dX4_sum_68 : decode cX4_sum 68 = .ok (.iload_n 2, 1) := by decide +kernel
theorem dX4_sum_69 : decode cX4_sum 69 = .ok (.iconst 0, 1) := by decide +kernel
theorem dX4_sum_70 : decode cX4_sum 70 = .ok (.invokevirtual 112, 3) := by decide +kernel
theorem dX4_sum_73 : decode cX4_sum 73 = .ok (.iinc 1 1, 3) := by decide +kernel
theorem dX4_sum_76 : decode cX4_sum 76 = .ok (.goto (-65), 3) := by decide +kernel
theorem dX4_sum_79 : decode cX4_sum 79 = .ok (.iconst 1, 1) := by decide +kernel
theorem dX4_sum_80 : decode cX4_sum 80 = .ok (.ireturn, 1) := by decide +kernel
theorem dX4_product_0 : decode cX4_product 0 = .ok (.aload_n 0, 1) := by decide +kernel
theorem dX4_product_1 : decode cX4_product 1 = .ok (.invokevirtual 148, 3) := by decide +kernel
theorem dX4_product_4 : decode cX4_product 4 = .ok (.ifCond .ne 5, 3) := by decide +kernel
theorem dX4_product_7 : decode cX4_product 7 = .ok (.iconst 0, 1) := by decide +kernel
theorem dX4_product_8 : decode cX4_product 8 = .ok (.ireturn, 1) := by decide +kernel
theorem dX4_product_9 : decode cX4_product 9 = .ok (.iconst 0, 1) := by decide +kernel
theorem dX4_product_10 : decode cX4_product 10 = .ok (.istore_n 1, 1) := by decide +kernel
theorem dX4_product_11 : decode cX4_product 11 = .ok (.iload_n 1, 1) := by decide +kernel
theorem dX4_product_12 : decode cX4_product 12 = .ok (.sipush 400, 3) := by decide +kernel
theorem dX4_product_15 : decode cX4_product 15 = .ok (.if_icmp .ge 66, 3) := by decide +kernel
theorem dX4_product_18 : decode cX4_product 18 = .ok (.aload_n 0, 1) := by decide +kernel
theorem dX4_product_19 : decode cX4_product 19 = .ok (.getfield 56, 3) := by decide +kernel
theorem dX4_product_22 : decode cX4_product 22 = .ok (.bipush 42, 2) := by decide +kernel
theorem dX4_product_24 : decode cX4_product 24 = .ok (.if_icmp .eq 21, 3) := by decide +kernel
theorem dX4_product_27 : decode cX4_product 27 = .ok (.aload_n 0, 1) := by decide +kernel
theorem dX4_product_28 : decode cX4_product 28 = .ok (.getfield 56, 3) := by decide +kernel
theorem dX4_product_31 : decode cX4_product 31 = .ok (.bipush 47, 2) := by decide +kernel
theorem dX4_product_33 : decode cX4_product 33 = .ok (.if_icmp .eq 12, 3) := by decide +kernel
theorem dX4_product_36 : decode cX4_product 36 = .ok (.aload_n 0, 1) := by decide +kernel
theorem dX4_product_37 : decode cX4_product 37 = .ok (.getfield 56, 3) := by decide +kernel
theorem dX4_product_40 : decode cX4_product 40 = .ok (.bipush 37, 2) := by decide +kernel
theorem dX4_product_42 : decode cX4_product 42 = .ok (.if_icmp .ne 39, 3) := by decide +kernel
theorem dX4_product_45 : decode cX4_product 45 = .ok (.aload_n 0, 1) := by decide +kernel
theorem dX4_product_46 : decode cX4_product 46 = .ok (.getfield 56, 3) := by decide +kernel
theorem dX4_product_49 : decode cX4_product 49 = .ok (.invokestatic 151, 3) := by decide +kernel
theorem dX4_product_52 : decode cX4_product 52 = .ok (.istore_n 2, 1) := by decide +kernel
theorem dX4_product_53 : decode cX4_product 53 = .ok (.aload_n 0, 1) := by decide +kernel
theorem dX4_product_54 : decode cX4_product 54 = .ok (.invokevirtual 72, 3) := by decide +kernel
theorem dX4_product_57 : decode cX4_product 57 = .ok (.aload_n 0, 1) := by decide +kernel
theorem dX4_product_58 : decode cX4_product 58 = .ok (.invokevirtual 148, 3) := by decide +kernel
theorem dX4_product_61 : decode cX4_product 61 = .ok (.ifCond .ne 5, 3) := by decide +kernel
theorem dX4_product_64 : decode cX4_product 64 = .ok (.iconst 0, 1) := by decide +kernel
theorem dX4_product_65 : decode cX4_product 65 = .ok (.ireturn, 1) := by decide +kernel
theorem dX4_product_66 : decode cX4_product 66 = .ok (.aload_n 0, 1) := by decide +kernel
theorem dX4_product_67 : decode cX4_product 67 = .ok (.getfield 14, 3) := by decide +kernel
theorem dX4_product_70 : decode cX4_product 70 = .ok (.iload_n 2, 1) := by decide +kernel
theorem dX4_product_71 : decode cX4_product 71 = .ok (.iconst 0, 1) := by decide +kernel
theorem dX4_product_72 : decode cX4_product 72 = .ok (.invokevirtual 112, 3) := by decide +kernel
theorem dX4_product_75 : decode cX4_product 75 = .ok (.iinc 1 1, 3) := by decide +kernel
theorem dX4_product_78 : decode cX4_product 78 = .ok (.goto (-67), 3) := by decide +kernel
theorem dX4_product_81 : decode cX4_product 81 = .ok (.iconst 1, 1) := by decide +kernel
theorem dX4_product_82 : decode cX4_product 82 = .ok (.ireturn, 1) := by decide +kernel
theorem dX4_part_0 : decode cX4_part 0 = .ok (.aload_n 0, 1) := by decide +kernel
theorem dX4_part_1 : decode cX4_part 1 = .ok (.getfield 56, 3) := by decide +kernel
theorem dX4_part_4 : decode cX4_part 4 = .ok (.bipush 91, 2) := by decide +kernel
theorem dX4_part_6 : decode cX4_part 6 = .ok (.if_icmp .ne 62, 3) := by decide +kernel
theorem dX4_part_9 : decode cX4_part 9 = .ok (.aload_n 0, 1) := by decide +kernel
theorem dX4_part_10 : decode cX4_part 10 = .ok (.getfield 62, 3) := by decide +kernel
theorem dX4_part_13 : decode cX4_part 13 = .ok (.bipush 8, 2) := by decide +kernel
theorem dX4_part_15 : decode cX4_part 15 = .ok (.if_icmp .lt 5, 3) := by decide +kernel
theorem dX4_part_18 : decode cX4_part 18 = .ok (.iconst 0, 1) := by decide +kernel
theorem dX4_part_19 : decode cX4_part 19 = .ok (.ireturn, 1) := by decide +kernel
theorem dX4_part_20 : decode cX4_part 20 = .ok (.aload_n 0, 1) := by decide +kernel
theorem dX4_part_21 : decode cX4_part 21 = .ok (.dup, 1) := by decide +kernel
theorem dX4_part_22 : decode cX4_part 22 = .ok (.getfield 62, 3) := by decide +kernel
theorem dX4_part_25 : decode cX4_part 25 = .ok (.iconst 1, 1) := by decide +kernel
theorem dX4_part_26 : decode cX4_part 26 = .ok (.iadd, 1) := by decide +kernel
theorem dX4_part_27 : decode cX4_part 27 = .ok (.putfield 62, 3) := by decide +kernel
theorem dX4_part_30 : decode cX4_part 30 = .ok (.aload_n 0, 1) := by decide +kernel
theorem dX4_part_31 : decode cX4_part 31 = .ok (.invokevirtual 72, 3) := by decide +kernel
theorem dX4_part_34 : decode cX4_part 34 = .ok (.aload_n 0, 1) := by decide +kernel
theorem dX4_part_35 : decode cX4_part 35 = .ok (.invokevirtual 108, 3) := by decide +kernel
theorem dX4_part_38 : decode cX4_part 38 = .ok (.ifCond .eq 12, 3) := by decide +kernel
theorem dX4_part_41 : decode cX4_part 41 = .ok (.aload_n 0, 1) := by decide +kernel
theorem dX4_part_42 : decode cX4_part 42 = .ok (.getfield 56, 3) := by decide +kernel
theorem dX4_part_45 : decode cX4_part 45 = .ok (.bipush 93, 2) := by decide +kernel
theorem dX4_part_47 : decode cX4_part 47 = .ok (.if_icmp .eq 5, 3) := by decide +kernel
theorem dX4_part_50 : decode cX4_part 50 = .ok (.iconst 0, 1) := by decide +kernel
theorem dX4_part_51 : decode cX4_part 51 = .ok (.ireturn, 1) := by decide +kernel
theorem dX4_part_52 : decode cX4_part 52 = .ok (.aload_n 0, 1) := by decide +kernel
theorem dX4_part_53 : decode cX4_part 53 = .ok (.dup, 1) := by decide +kernel
theorem dX4_part_54 : decode cX4_part 54 = .ok (.getfield 62, 3) := by decide +kernel
theorem dX4_part_57 : decode cX4_part 57 = .ok (.iconst 1, 1) := by decide +kernel
theorem dX4_part_58 : decode cX4_part 58 = .ok (.isub, 1) := by decide +kernel
theorem dX4_part_59 : decode cX4_part 59 = .ok (.putfield 62, 3) := by decide +kernel
theorem dX4_part_62 : decode cX4_part 62 = .ok (.aload_n 0, 1) := by decide +kernel
theorem dX4_part_63 : decode cX4_part 63 = .ok (.invokevirtual 72, 3) := by decide +kernel
theorem dX4_part_66 : decode cX4_part 66 = .ok (.iconst 1, 1) := by decide +kernel
theorem dX4_part_67 : decode cX4_part 67 = .ok (.ireturn, 1) := by decide +kernel
theorem dX4_part_68 : decode cX4_part 68 = .ok (.aload_n 0, 1) := by decide +kernel
theorem dX4_part_69 : decode cX4_part 69 = .ok (.getfield 59, 3) := by decide +kernel
theorem dX4_part_72 : decode cX4_part 72 = .ok (.bipush 50, 2) := by decide +kernel
theorem dX4_part_74 : decode cX4_part 74 = .ok (.if_icmp .lt 5, 3) := by decide +kernel
theorem dX4_part_77 : decode cX4_part 77 = .ok (.iconst 0, 1) := by decide +kernel
theorem dX4_part_78 : decode cX4_part 78 = .ok (.ireturn, 1) := by decide +kernel
theorem dX4_part_79 : decode cX4_part 79 = .ok (.aload_n 0, 1) := by decide +kernel
theorem dX4_part_80 : decode cX4_part 80 = .ok (.dup, 1) := by decide +kernel
theorem dX4_part_81 : decode cX4_part 81 = .ok (.getfield 59, 3) := by decide +kernel
theorem dX4_part_84 : decode cX4_part 84 = .ok (.iconst 1, 1) := by decide +kernel
theorem dX4_part_85 : decode cX4_part 85 = .ok (.iadd, 1) := by decide +kernel
theorem dX4_part_86 : decode cX4_part 86 = .ok (.putfield 59, 3) := by decide +kernel
theorem dX4_part_89 : decode cX4_part 89 = .ok (.aload_n 0, 1) := by decide +kernel
theorem dX4_part_90 : decode cX4_part 90 = .ok (.getfield 56, 3) := by decide +kernel
theorem dX4_part_93 : decode cX4_part 93 = .ok (.sipush 284, 3) := by decide +kernel
theorem dX4_part_96 : decode cX4_part 96 = .ok (.if_icmp .ne 41, 3) := by decide +kernel
theorem dX4_part_99 : decode cX4_part 99 = .ok (.aload_n 0, 1) := by decide +kernel
theorem dX4_part_100 : decode cX4_part 100 = .ok (.getfield 27, 3) := by decide +kernel
theorem dX4_part_103 : decode cX4_part 103 = .ok (.aload_n 0, 1) := by decide +kernel
theorem dX4_part_104 : decode cX4_part 104 = .ok (.getfield 53, 3) := by decide +kernel
theorem dX4_part_107 : decode cX4_part 107 = .ok (.iaload, 1) := by decide +kernel
theorem dX4_part_108 : decode cX4_part 108 = .ok (.sipush 1000, 3) := by decide +kernel
theorem dX4_part_111 : decode cX4_part 111 = .ok (.if_icmp .gt 26, 3) := by decide +kernel
theorem dX4_part_114 : decode cX4_part 114 = .ok (.aload_n 0, 1) := by decide +kernel
theorem dX4_part_115 : decode cX4_part 115 = .ok (.getfield 14, 3) := by decide +kernel
theorem dX4_part_118 : decode cX4_part 118 = .ok (.iconst 1, 1) := by decide +kernel
theorem dX4_part_119 : decode cX4_part 119 = .ok (.aload_n 0, 1) := by decide +kernel
theorem dX4_part_120 : decode cX4_part 120 = .ok (.getfield 27, 3) := by decide +kernel
theorem dX4_part_123 : decode cX4_part 123 = .ok (.aload_n 0, 1) := by decide +kernel
theorem dX4_part_124 : decode cX4_part 124 = .ok (.getfield 53, 3) := by decide +kernel
theorem dX4_part_127 : decode cX4_part 127 = .ok (.iaload, 1) := by decide +kernel
theorem dX4_part_128 : decode cX4_part 128 = .ok (.invokevirtual 112, 3) := by decide +kernel
theorem dX4_part_131 : decode cX4_part 131 = .ok (.aload_n 0, 1) := by decide +kernel
theorem dX4_part_132 : decode cX4_part 132 = .ok (.invokevirtual 72, 3) := by decide +kernel
theorem dX4_part_135 : decode cX4_part 135 = .ok (.iconst 1, 1) := by decide +kernel
theorem dX4_part_136 : decode cX4_part 136 = .ok (.ireturn, 1) := by decide +kernel
theorem dX4_part_137 : decode cX4_part 137 = .ok (.aload_n 0, 1) := by decide +kernel
theorem dX4_part_138 : decode cX4_part 138 = .ok (.getfield 49, 3) := by decide +kernel
theorem dX4_part_141 : decode cX4_part 141 = .ok (.ifCond .eq 10, 3) := by decide +kernel
theorem dX4_part_144 : decode cX4_part 144 = .ok (.aload_n 0, 1) := by decide +kernel
theorem dX4_part_145 : decode cX4_part 145 = .ok (.invokevirtual 154, 3) := by decide +kernel
theorem dX4_part_148 : decode cX4_part 148 = .ok (.goto 7, 3) := by decide +kernel
theorem dX4_part_151 : decode cX4_part 151 = .ok (.aload_n 0, 1) := by decide +kernel
theorem dX4_part_152 : decode cX4_part 152 = .ok (.invokevirtual 157, 3) := by decide +kernel
theorem dX4_part_155 : decode cX4_part 155 = .ok (.ireturn, 1) := by decide +kernel
theorem dX4_readRuleWord_0 : decode cX4_readRuleWord 0 = .ok (.aload_n 0, 1) := by decide +kernel
theorem dX4_readRuleWord_1 : decode cX4_readRuleWord 1 = .ok (.getfield 56, 3) := by decide +kernel
theorem dX4_readRuleWord_4 : decode cX4_readRuleWord 4 = .ok (.sipush 256, 3) := by decide +kernel
theorem dX4_readRuleWord_7 : decode cX4_readRuleWord 7 = .ok (.if_icmp .lt 13, 3) := by decide +kernel
theorem dX4_readRuleWord_10 : decode cX4_readRuleWord 10 = .ok (.aload_n 0, 1) := by decide +kernel
theorem dX4_readRuleWord_11 : decode cX4_readRuleWord 11 = .ok (.getfield 56, 3) := by decide +kernel
theorem dX4_readRuleWord_14 : decode cX4_readRuleWord 14 = .ok (.sipush 264, 3) := by decide +kernel
theorem dX4_readRuleWord_17 : decode cX4_readRuleWord 17 = .ok (.if_icmp .lt 5, 3) := by decide +kernel
theorem dX4_readRuleWord_20 : decode cX4_readRuleWord 20 = .ok (.iconst 0, 1) := by decide +kernel
theorem dX4_readRuleWord_21 : decode cX4_readRuleWord 21 = .ok (.ireturn, 1) := by decide +kernel
theorem dX4_readRuleWord_22 : decode cX4_readRuleWord 22 = .ok (.aload_n 0, 1) := by decide +kernel
theorem dX4_readRuleWord_23 : decode cX4_readRuleWord 23 = .ok (.getfield 14, 3) := by decide +kernel
theorem dX4_readRuleWord_26 : decode cX4_readRuleWord 26 = .ok (.iconst 2, 1) := by decide +kernel
theorem dX4_readRuleWord_27 : decode cX4_readRuleWord 27 = .ok (.aload_n 0, 1) := by decide +kernel
theorem dX4_readRuleWord_28 : decode cX4_readRuleWord 28 = .ok (.getfield 56, 3) := by decide +kernel
theorem dX4_readRuleWord_31 : decode cX4_readRuleWord 31 = .ok (.sipush 256, 3) := by decide +kernel
theorem dX4_readRuleWord_34 : decode cX4_readRuleWord 34 = .ok (.isub, 1) := by decide +kernel
theorem dX4_readRuleWord_35 : decode cX4_readRuleWord 35 = .ok (.invokevirtual 112, 3) := by decide +kernel
theorem dX4_readRuleWord_38 : decode cX4_readRuleWord 38 = .ok (.aload_n 0, 1) := by decide +kernel
theorem dX4_readRuleWord_39 : decode cX4_readRuleWord 39 = .ok (.invokevirtual 72, 3) := by decide +kernel
theorem dX4_readRuleWord_42 : decode cX4_readRuleWord 42 = .ok (.iconst 1, 1) := by decide +kernel
theorem dX4_readRuleWord_43 : decode cX4_readRuleWord 43 = .ok (.ireturn, 1) := by decide +kernel
theorem dX4_readOrderWord_0 : decode cX4_readOrderWord 0 = .ok (.aload_n 0, 1) := by decide +kernel
theorem dX4_readOrderWord_1 : decode cX4_readOrderWord 1 = .ok (.getfield 56, 3) := by decide +kernel
theorem dX4_readOrderWord_4 : decode cX4_readOrderWord 4 = .ok (.invokestatic 160, 3) := by decide +kernel
theorem dX4_readOrderWord_7 : decode cX4_readOrderWord 7 = .ok (.istore_n 1, 1) := by decide +kernel
theorem dX4_readOrderWord_8 : decode cX4_readOrderWord 8 = .ok (.iload_n 1, 1) := by decide +kernel
theorem dX4_readOrderWord_9 : decode cX4_readOrderWord 9 = .ok (.iconst (-1), 1) := by decide +kernel
theorem dX4_readOrderWord_10 : decode cX4_readOrderWord 10 = .ok (.if_icmp .ne 5, 3) := by decide +kernel
theorem dX4_readOrderWord_13 : decode cX4_readOrderWord 13 = .ok (.iconst 0, 1) := by decide +kernel
theorem dX4_readOrderWord_14 : decode cX4_readOrderWord 14 = .ok (.ireturn, 1) := by decide +kernel
theorem dX4_readOrderWord_15 : decode cX4_readOrderWord 15 = .ok (.aload_n 0, 1) := by decide +kernel
theorem dX4_readOrderWord_16 : decode cX4_readOrderWord 16 = .ok (.invokevirtual 72, 3) := by decide +kernel
theorem dX4_readOrderWord_19 : decode cX4_readOrderWord 19 = .ok (.iconst 0, 1) := by decide +kernel
theorem dX4_readOrderWord_20 : decode cX4_readOrderWord 20 = .ok (.istore_n 2, 1) := by decide +kernel
theorem dX4_readOrderWord_21 : decode cX4_readOrderWord 21 = .ok (.iload_n 1, 1) := by decide +kernel
theorem dX4_readOrderWord_22 : decode cX4_readOrderWord 22 = .ok (.iconst 5, 1) := by decide +kernel
theorem dX4_readOrderWord_23 : decode cX4_readOrderWord 23 = .ok (.if_icmp .eq 9, 3) := by decide +kernel
theorem dX4_readOrderWord_26 : decode cX4_readOrderWord 26 = .ok (.iload_n 1, 1) := by decide +kernel
theorem dX4_readOrderWord_27 : decode cX4_readOrderWord 27 = .ok (.bipush 21, 2) := by decide +kernel
theorem dX4_readOrderWord_29 : decode cX4_readOrderWord 29 = .ok (.if_icmp .ne 55, 3) := by decide +kernel
theorem dX4_readOrderWord_32 : decode cX4_readOrderWord 32 = .ok (.iload_n 1, 1) := by decide +kernel
theorem dX4_readOrderWord_33 : decode cX4_readOrderWord 33 = .ok (.iconst 5, 1) := by decide +kernel
theorem dX4_readOrderWord_34 : decode cX4_readOrderWord 34 = .ok (.if_icmp .ne 8, 3) := by decide +kernel
theorem dX4_readOrderWord_37 : decode cX4_readOrderWord 37 = .ok (.bipush 16, 2) := by decide +kernel
theorem dX4_readOrderWord_39 : decode cX4_readOrderWord 39 = .ok (.goto 5, 3) := by decide +kernel
theorem dX4_readOrderWord_42 : decode cX4_readOrderWord 42 = .ok (.bipush 8, 2) := by decide +kernel
theorem dX4_readOrderWord_44 : decode cX4_readOrderWord 44 = .ok (.istore_n 3, 1) := by decide +kernel
theorem dX4_readOrderWord_45 : decode cX4_readOrderWord 45 = .ok (.aload_n 0, 1) := by decide +kernel
theorem dX4_readOrderWord_46 : decode cX4_readOrderWord 46 = .ok (.getfield 56, 3) := by decide +kernel
theorem dX4_readOrderWord_49 : decode cX4_readOrderWord 49 = .ok (.sipush 284, 3) := by decide +kernel
theorem dX4_readOrderWord_52 : decode cX4_readOrderWord 52 = .ok (.if_icmp .ne 16, 3) := by decide +kernel
theorem dX4_readOrderWord_55 : decode cX4_readOrderWord 55 = .ok (.aload_n 0, 1) := by decide +kernel
theorem dX4_readOrderWord_56 : decode cX4_readOrderWord 56 = .ok (.getfield 27, 3) := by decide +kernel
theorem dX4_readOrderWord_59 : decode cX4_readOrderWord 59 = .ok (.aload_n 0, 1) := by decide +kernel
theorem dX4_readOrderWord_60 : decode cX4_readOrderWord 60 = .ok (.getfield 53, 3) := by decide +kernel
theorem dX4_readOrderWord_63 : decode cX4_readOrderWord 63 = .ok (.iaload, 1) := by decide +kernel
theorem dX4_readOrderWord_64 : decode cX4_readOrderWord 64 = .ok (.iload_n 3, 1) := by decide +kernel
theorem dX4_readOrderWord_65 : decode cX4_readOrderWord 65 = .ok (.if_icmp .lt 5, 3) := by decide +kernel
theorem dX4_readOrderWord_68 : decode cX4_readOrderWord 68 = .ok (.iconst 0, 1) := by decide +kernel
theorem dX4_readOrderWord_69 : decode cX4_readOrderWord 69 = .ok (.ireturn, 1) := by decide +kernel
theorem dX4_readOrderWord_70 : decode cX4_readOrderWord 70 = .ok (.aload_n 0, 1) := by decide +kernel
theorem dX4_readOrderWord_71 : decode cX4_readOrderWord 71 = .ok (.getfield 27, 3) := by decide +kernel
theorem dX4_readOrderWord_74 : decode cX4_readOrderWord 74 = .ok (.aload_n 0, 1) := by decide +kernel
theorem dX4_readOrderWord_75 : decode cX4_readOrderWord 75 = .ok (.getfield 53, 3) := by decide +kernel
theorem dX4_readOrderWord_78 : decode cX4_readOrderWord 78 = .ok (.iaload, 1) := by decide +kernel
theorem dX4_readOrderWord_79 : decode cX4_readOrderWord 79 = .ok (.istore_n 2, 1) := by decide +kernel
theorem dX4_readOrderWord_80 : decode cX4_readOrderWord 80 = .ok (.aload_n 0, 1) := by decide +kernel
theorem dX4_readOrderWord_81 : decode cX4_readOrderWord 81 = .ok (.invokevirtual 72, 3) := by decide +kernel
theorem dX4_readOrderWord_84 : decode cX4_readOrderWord 84 = .ok (.aload_n 0, 1) := by decide +kernel
theorem dX4_readOrderWord_85 : decode cX4_readOrderWord 85 = .ok (.getfield 14, 3) := by decide +kernel
theorem dX4_readOrderWord_88 : decode cX4_readOrderWord 88 = .ok (.aload_n 0, 1) := by decide +kernel
theorem dX4_readOrderWord_89 : decode cX4_readOrderWord 89 = .ok (.getfield 14, 3) := by decide +kernel
theorem dX4_readOrderWord_92 : decode cX4_readOrderWord 92 = .ok (.getfield 163, 3) := by decide +kernel
theorem dX4_readOrderWord_95 : decode cX4_readOrderWord 95 = .ok (.ifCond .ne 8, 3) := by decide +kernel
theorem dX4_readOrderWord_98 : decode cX4_readOrderWord 98 = .ok (.iload_n 1, 1) := by decide +kernel
theorem dX4_readOrderWord_99 : decode cX4_readOrderWord 99 = .ok (.iconst 3, 1) := by decide +kernel
theorem dX4_readOrderWord_100 : decode cX4_readOrderWord 100 = .ok (.if_icmp .ne 7, 3) := by decide +kernel
theorem dX4_readOrderWord_103 : decode cX4_readOrderWord 103 = .ok (.iconst 1, 1) := by decide +kernel
theorem dX4_readOrderWord_104 : decode cX4_readOrderWord 104 = .ok (.goto 4, 3) := by decide +kernel
theorem dX4_readOrderWord_107 : decode cX4_readOrderWord 107 = .ok (.iconst 0, 1) := by decide +kernel
theorem dX4_readOrderWord_108 : decode cX4_readOrderWord 108 = .ok (.putfield 163, 3) := by decide +kernel
theorem dX4_readOrderWord_111 : decode cX4_readOrderWord 111 = .ok (.aload_n 0, 1) := by decide +kernel
theorem dX4_readOrderWord_112 : decode cX4_readOrderWord 112 = .ok (.getfield 14, 3) := by decide +kernel
theorem dX4_readOrderWord_115 : decode cX4_readOrderWord 115 = .ok (.iconst 2, 1) := by decide +kernel
theorem dX4_readOrderWord_116 : decode cX4_readOrderWord 116 = .ok (.iload_n 1, 1) := by decide +kernel
theorem dX4_readOrderWord_117 : decode cX4_readOrderWord 117 = .ok (.iload_n 2, 1) := by decide +kernel
theorem dX4_readOrderWord_118 : decode cX4_readOrderWord 118 = .ok (.iadd, 1) := by decide +kernel
theorem dX4_readOrderWord_119 : decode cX4_readOrderWord 119 = .ok (.invokevirtual 112, 3) := by decide +kernel
theorem dX4_readOrderWord_122 : decode cX4_readOrderWord 122 = .ok (.iconst 1, 1) := by decide +kernel
theorem dX4_readOrderWord_123 : decode cX4_readOrderWord 123 = .ok (.ireturn, 1) := by decide +kernel
theorem dX4_comparison_0 : decode cX4_comparison 0 = .ok (.iload_n 0, 1) := by decide +kernel
theorem dX4_comparison_1 : decode cX4_comparison 1 = .ok (.bipush 60, 2) := by decide +kernel
theorem dX4_comparison_3 : decode cX4_comparison 3 = .ok (.if_icmp .ne 6, 3) := by decide +kernel
theorem dX4_comparison_6 : decode cX4_comparison 6 = .ok (.bipush 8, 2) := by decide +kernel
theorem dX4_comparison_8 : decode cX4_comparison 8 = .ok (.ireturn, 1) := by decide +kernel
theorem dX4_comparison_9 : decode cX4_comparison 9 = .ok (.iload_n 0, 1) := by decide +kernel
theorem dX4_comparison_10 : decode cX4_comparison 10 = .ok (.bipush 62, 2) := by decide +kernel
theorem dX4_comparison_12 : decode cX4_comparison 12 = .ok (.if_icmp .ne 8, 3) := by decide +kernel
theorem dX4_comparison_15 : decode cX4_comparison 15 = .ok (.bipush 9, 2) := by decide +kernel
theorem dX4_comparison_17 : decode cX4_comparison 17 = .ok (.goto 5, 3) := by decide +kernel
theorem dX4_comparison_20 : decode cX4_comparison 20 = .ok (.bipush 10, 2) := by decide +kernel
theorem dX4_comparison_22 : decode cX4_comparison 22 = .ok (.ireturn, 1) := by decide +kernel
theorem dX4_multiplication_0 : decode cX4_multiplication 0 = .ok (.iload_n 0, 1) := by decide +kernel
theorem dX4_multiplication_1 : decode cX4_multiplication 1 = .ok (.bipush 42, 2) := by decide +kernel
theorem dX4_multiplication_3 : decode cX4_multiplication 3 = .ok (.if_icmp .ne 5, 3) := by decide +kernel
theorem dX4_multiplication_6 : decode cX4_multiplication 6 = .ok (.iconst 5, 1) := by decide +kernel
theorem dX4_multiplication_7 : decode cX4_multiplication 7 = .ok (.ireturn, 1) := by decide +kernel
theorem dX4_multiplication_8 : decode cX4_multiplication 8 = .ok (.iload_n 0, 1) := by decide +kernel
theorem dX4_multiplication_9 : decode cX4_multiplication 9 = .ok (.bipush 47, 2) := by decide +kernel
theorem dX4_multiplication_11 : decode cX4_multiplication 11 = .ok (.if_icmp .ne 8, 3) := by decide +kernel
theorem dX4_multiplication_14 : decode cX4_multiplication 14 = .ok (.bipush 6, 2) := by decide +kernel
theorem dX4_multiplication_16 : decode cX4_multiplication 16 = .ok (.goto 5, 3) := by decide +kernel
theorem dX4_multiplication_19 : decode cX4_multiplication 19 = .ok (.bipush 7, 2) := by decide +kernel
theorem dX4_multiplication_21 : decode cX4_multiplication 21 = .ok (.ireturn, 1) := by decide +kernel
theorem dX4_orderWord_0 : decode cX4_orderWord 0 = .ok (.iload_n 0, 1) := by decide +kernel
theorem dX4_orderWord_1 : decode cX4_orderWord 1 = .ok (.tableswitch 74 258 268 #[71, 74, 74, 74, 59, 74, 61, 63, 65, 67, 69], 59) := by decide +kernel
theorem dX4_orderWord_60 : decode cX4_orderWord 60 = .ok (.iconst 0, 1) := by decide +kernel
theorem dX4_orderWord_61 : decode cX4_orderWord 61 = .ok (.ireturn, 1) := by decide +kernel
theorem dX4_orderWord_62 : decode cX4_orderWord 62 = .ok (.iconst 1, 1) := by decide +kernel
theorem dX4_orderWord_63 : decode cX4_orderWord 63 = .ok (.ireturn, 1) := by decide +kernel
theorem dX4_orderWord_64 : decode cX4_orderWord 64 = .ok (.iconst 2, 1) := by decide +kernel
theorem dX4_orderWord_65 : decode cX4_orderWord 65 = .ok (.ireturn, 1) := by decide +kernel
theorem dX4_orderWord_66 : decode cX4_orderWord 66 = .ok (.iconst 3, 1) := by decide +kernel
theorem dX4_orderWord_67 : decode cX4_orderWord 67 = .ok (.ireturn, 1) := by decide +kernel
theorem dX4_orderWord_68 : decode cX4_orderWord 68 = .ok (.iconst 4, 1) := by decide +kernel
theorem dX4_orderWord_69 : decode cX4_orderWord 69 = .ok (.ireturn, 1) := by decide +kernel
theorem dX4_orderWord_70 : decode cX4_orderWord 70 = .ok (.iconst 5, 1) := by decide +kernel
theorem dX4_orderWord_71 : decode cX4_orderWord 71 = .ok (.ireturn, 1) := by decide +kernel
theorem dX4_orderWord_72 : decode cX4_orderWord 72 = .ok (.bipush 21, 2) := by decide +kernel
theorem dX4_orderWord_74 : decode cX4_orderWord 74 = .ok (.ireturn, 1) := by decide +kernel
theorem dX4_orderWord_75 : decode cX4_orderWord 75 = .ok (.iconst (-1), 1) := by decide +kernel
theorem dX4_orderWord_76 : decode cX4_orderWord 76 = .ok (.ireturn, 1) := by decide +kernel
