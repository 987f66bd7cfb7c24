/-! decode rows -/
theorem dX11_might_0 : decode cX11_might 0 = .ok (.iload_n 1, 1) := by decide +kernel
theorem dX11_might_1 : decode cX11_might 1 = .ok (.invokestatic 138, 3) := by decide +kernel
theorem dX11_might_4 : decode cX11_might 4 = .ok (.ifCond .eq 10, 3) := by decide +kernel
theorem dX11_might_7 : decode cX11_might 7 = .ok (.iload_n 2, 1) := by decide +kernel
theorem dX11_might_8 : decode cX11_might 8 = .ok (.invokestatic 135, 3) := by decide +kernel
theorem dX11_might_11 : decode cX11_might 11 = .ok (.ifCond .ne 5, 3) := by decide +kernel
theorem dX11_might_14 : decode cX11_might 14 = .ok (.iconst (-1), 1) := by decide +kernel
theorem dX11_might_15 : decode cX11_might 15 = .ok (.ireturn, 1) := by decide +kernel
theorem dX11_might_16 : decode cX11_might 16 = .ok (.aload_n 0, 1) := by decide +kernel
theorem dX11_might_17 : decode cX11_might 17 = .ok (.iload_n 1, 1) := by decide +kernel
theorem dX11_might_18 : decode cX11_might 18 = .ok (.invokevirtual 122, 3) := by decide +kernel
theorem dX11_might_21 : decode cX11_might 21 = .ok (.iload_n 2, 1) := by decide +kernel
theorem dX11_might_22 : decode cX11_might 22 = .ok (.invokestatic 335, 3) := by decide +kernel
theorem dX11_might_25 : decode cX11_might 25 = .ok (.ifCond .ne 5, 3) := by decide +kernel
theorem dX11_might_28 : decode cX11_might 28 = .ok (.iconst 0, 1) := by decide +kernel
theorem dX11_might_29 : decode cX11_might 29 = .ok (.ireturn, 1) := by decide +kernel
theorem dX11_might_30 : decode cX11_might 30 = .ok (.aload_n 0, 1) := by decide +kernel
theorem dX11_might_31 : decode cX11_might 31 = .ok (.iload_n 1, 1) := by decide +kernel
theorem dX11_might_32 : decode cX11_might 32 = .ok (.aload_n 0, 1) := by decide +kernel
theorem dX11_might_33 : decode cX11_might 33 = .ok (.iload_n 1, 1) := by decide +kernel
theorem dX11_might_34 : decode cX11_might 34 = .ok (.invokevirtual 122, 3) := by decide +kernel
theorem dX11_might_37 : decode cX11_might 37 = .ok (.invokevirtual 345, 3) := by decide +kernel
theorem dX11_might_40 : decode cX11_might 40 = .ok (.iconst 0, 1) := by decide +kernel
theorem dX11_might_41 : decode cX11_might 41 = .ok (.istore_n 3, 1) := by decide +kernel
theorem dX11_might_42 : decode cX11_might 42 = .ok (.iconst 0, 1) := by decide +kernel
theorem dX11_might_43 : decode cX11_might 43 = .ok (.istore 4, 2) := by decide +kernel
theorem dX11_might_45 : decode cX11_might 45 = .ok (.iload 4, 2) := by decide +kernel
theorem dX11_might_47 : decode cX11_might 47 = .ok (.aload_n 0, 1) := by decide +kernel
theorem dX11_might_48 : decode cX11_might 48 = .ok (.invokevirtual 118, 3) := by decide +kernel
theorem dX11_might_51 : decode cX11_might 51 = .ok (.if_icmp .ge 55, 3) := by decide +kernel
theorem dX11_might_54 : decode cX11_might 54 = .ok (.aload_n 0, 1) := by decide +kernel
theorem dX11_might_55 : decode cX11_might 55 = .ok (.invokevirtual 348, 3) := by decide +kernel
theorem dX11_might_58 : decode cX11_might 58 = .ok (.aload_n 0, 1) := by decide +kernel
theorem dX11_might_59 : decode cX11_might 59 = .ok (.getfield 75, 3) := by decide +kernel
theorem dX11_might_62 : decode cX11_might 62 = .ok (.iload 4, 2) := by decide +kernel
theorem dX11_might_64 : decode cX11_might 64 = .ok (.iconst 1, 1) := by decide +kernel
theorem dX11_might_65 : decode cX11_might 65 = .ok (.iload_n 2, 1) := by decide +kernel
theorem dX11_might_66 : decode cX11_might 66 = .ok (.ishl, 1) := by decide +kernel
theorem dX11_might_67 : decode cX11_might 67 = .ok (.iastore, 1) := by decide +kernel
theorem dX11_might_68 : decode cX11_might 68 = .ok (.iload_n 3, 1) := by decide +kernel
theorem dX11_might_69 : decode cX11_might 69 = .ok (.aload_n 0, 1) := by decide +kernel
theorem dX11_might_70 : decode cX11_might 70 = .ok (.aload_n 0, 1) := by decide +kernel
theorem dX11_might_71 : decode cX11_might 71 = .ok (.iload_n 1, 1) := by decide +kernel
theorem dX11_might_72 : decode cX11_might 72 = .ok (.invokevirtual 122, 3) := by decide +kernel
theorem dX11_might_75 : decode cX11_might 75 = .ok (.iconst 1, 1) := by decide +kernel
theorem dX11_might_76 : decode cX11_might 76 = .ok (.iload_n 2, 1) := by decide +kernel
theorem dX11_might_77 : decode cX11_might 77 = .ok (.ishl, 1) := by decide +kernel
theorem dX11_might_78 : decode cX11_might 78 = .ok (.iconst (-1), 1) := by decide +kernel
theorem dX11_might_79 : decode cX11_might 79 = .ok (.ixor, 1) := by decide +kernel
theorem dX11_might_80 : decode cX11_might 80 = .ok (.iand, 1) := by decide +kernel
theorem dX11_might_81 : decode cX11_might 81 = .ok (.invokevirtual 351, 3) := by decide +kernel
theorem dX11_might_84 : decode cX11_might 84 = .ok (.ldc_w 338, 3) := by decide +kernel
theorem dX11_might_87 : decode cX11_might 87 = .ok (.if_icmp .ge 10, 3) := by decide +kernel
theorem dX11_might_90 : decode cX11_might 90 = .ok (.iconst 1, 1) := by decide +kernel
theorem dX11_might_91 : decode cX11_might 91 = .ok (.iload 4, 2) := by decide +kernel
theorem dX11_might_93 : decode cX11_might 93 = .ok (.ishl, 1) := by decide +kernel
theorem dX11_might_94 : decode cX11_might 94 = .ok (.goto 4, 3) := by decide +kernel
theorem dX11_might_97 : decode cX11_might 97 = .ok (.iconst 0, 1) := by decide +kernel
theorem dX11_might_98 : decode cX11_might 98 = .ok (.ior, 1) := by decide +kernel
theorem dX11_might_99 : decode cX11_might 99 = .ok (.istore_n 3, 1) := by decide +kernel
theorem dX11_might_100 : decode cX11_might 100 = .ok (.iinc 4 1, 3) := by decide +kernel
theorem dX11_might_103 : decode cX11_might 103 = .ok (.goto (-58), 3) := by decide +kernel
theorem dX11_might_106 : decode cX11_might 106 = .ok (.iload_n 3, 1) := by decide +kernel
theorem dX11_might_107 : decode cX11_might 107 = .ok (.ireturn, 1) := by decide +kernel
theorem dX11_hasSet_0 : decode cX11_hasSet 0 = .ok (.aload_n 0, 1) := by decide +kernel
theorem dX11_hasSet_1 : decode cX11_hasSet 1 = .ok (.getfield 81, 3) := by decide +kernel
theorem dX11_hasSet_4 : decode cX11_hasSet 4 = .ok (.sipush 256, 3) := by decide +kernel
theorem dX11_hasSet_7 : decode cX11_hasSet 7 = .ok (.iload_n 1, 1) := by decide +kernel
theorem dX11_hasSet_8 : decode cX11_hasSet 8 = .ok (.imul, 1) := by decide +kernel
theorem dX11_hasSet_9 : decode cX11_hasSet 9 = .ok (.iload_n 3, 1) := by decide +kernel
theorem dX11_hasSet_10 : decode cX11_hasSet 10 = .ok (.iadd, 1) := by decide +kernel
theorem dX11_hasSet_11 : decode cX11_hasSet 11 = .ok (.baload, 1) := by decide +kernel
theorem dX11_hasSet_12 : decode cX11_hasSet 12 = .ok (.istore 4, 2) := by decide +kernel
theorem dX11_hasSet_14 : decode cX11_hasSet 14 = .ok (.iload_n 3, 1) := by decide +kernel
theorem dX11_hasSet_15 : decode cX11_hasSet 15 = .ok (.istore 5, 2) := by decide +kernel
theorem dX11_hasSet_17 : decode cX11_hasSet 17 = .ok (.iload 5, 2) := by decide +kernel
theorem dX11_hasSet_19 : decode cX11_hasSet 19 = .ok (.ifCond .le 63, 3) := by decide +kernel
theorem dX11_hasSet_22 : decode cX11_hasSet 22 = .ok (.iload 4, 2) := by decide +kernel
theorem dX11_hasSet_24 : decode cX11_hasSet 24 = .ok (.ifCond .ne 58, 3) := by decide +kernel
theorem dX11_hasSet_27 : decode cX11_hasSet 27 = .ok (.aload_n 0, 1) := by decide +kernel
theorem dX11_hasSet_28 : decode cX11_hasSet 28 = .ok (.getfield 66, 3) := by decide +kernel
theorem dX11_hasSet_31 : decode cX11_hasSet 31 = .ok (.sipush 256, 3) := by decide +kernel
theorem dX11_hasSet_34 : decode cX11_hasSet 34 = .ok (.iload_n 2, 1) := by decide +kernel
theorem dX11_hasSet_35 : decode cX11_hasSet 35 = .ok (.imul, 1) := by decide +kernel
theorem dX11_hasSet_36 : decode cX11_hasSet 36 = .ok (.iload 5, 2) := by decide +kernel
theorem dX11_hasSet_38 : decode cX11_hasSet 38 = .ok (.iadd, 1) := by decide +kernel
theorem dX11_hasSet_39 : decode cX11_hasSet 39 = .ok (.iaload, 1) := by decide +kernel
theorem dX11_hasSet_40 : decode cX11_hasSet 40 = .ok (.ldc_w 338, 3) := by decide +kernel
theorem dX11_hasSet_43 : decode cX11_hasSet 43 = .ok (.if_icmp .ge 25, 3) := by decide +kernel
theorem dX11_hasSet_46 : decode cX11_hasSet 46 = .ok (.aload_n 0, 1) := by decide +kernel
theorem dX11_hasSet_47 : decode cX11_hasSet 47 = .ok (.getfield 81, 3) := by decide +kernel
theorem dX11_hasSet_50 : decode cX11_hasSet 50 = .ok (.sipush 256, 3) := by decide +kernel
theorem dX11_hasSet_53 : decode cX11_hasSet 53 = .ok (.iload_n 1, 1) := by decide +kernel
theorem dX11_hasSet_54 : decode cX11_hasSet 54 = .ok (.imul, 1) := by decide +kernel
theorem dX11_hasSet_55 : decode cX11_hasSet 55 = .ok (.iload_n 3, 1) := by decide +kernel
theorem dX11_hasSet_56 : decode cX11_hasSet 56 = .ok (.iload 5, 2) := by decide +kernel
theorem dX11_hasSet_58 : decode cX11_hasSet 58 = .ok (.ixor, 1) := by decide +kernel
theorem dX11_hasSet_59 : decode cX11_hasSet 59 = .ok (.iadd, 1) := by decide +kernel
theorem dX11_hasSet_60 : decode cX11_hasSet 60 = .ok (.baload, 1) := by decide +kernel
theorem dX11_hasSet_61 : decode cX11_hasSet 61 = .ok (.ifCond .eq 7, 3) := by decide +kernel
theorem dX11_hasSet_64 : decode cX11_hasSet 64 = .ok (.iconst 1, 1) := by decide +kernel
theorem dX11_hasSet_65 : decode cX11_hasSet 65 = .ok (.goto 4, 3) := by decide +kernel
theorem dX11_hasSet_68 : decode cX11_hasSet 68 = .ok (.iconst 0, 1) := by decide +kernel
theorem dX11_hasSet_69 : decode cX11_hasSet 69 = .ok (.istore 4, 2) := by decide +kernel
theorem dX11_hasSet_71 : decode cX11_hasSet 71 = .ok (.iload 5, 2) := by decide +kernel
theorem dX11_hasSet_73 : decode cX11_hasSet 73 = .ok (.iconst 1, 1) := by decide +kernel
theorem dX11_hasSet_74 : decode cX11_hasSet 74 = .ok (.isub, 1) := by decide +kernel
theorem dX11_hasSet_75 : decode cX11_hasSet 75 = .ok (.iload_n 3, 1) := by decide +kernel
theorem dX11_hasSet_76 : decode cX11_hasSet 76 = .ok (.iand, 1) := by decide +kernel
theorem dX11_hasSet_77 : decode cX11_hasSet 77 = .ok (.istore 5, 2) := by decide +kernel
theorem dX11_hasSet_79 : decode cX11_hasSet 79 = .ok (.goto (-62), 3) := by decide +kernel
theorem dX11_hasSet_82 : decode cX11_hasSet 82 = .ok (.iload 4, 2) := by decide +kernel
theorem dX11_hasSet_84 : decode cX11_hasSet 84 = .ok (.ireturn, 1) := by decide +kernel
theorem dX11_laysCrowds_0 : decode cX11_laysCrowds 0 = .ok (.aload_n 0, 1) := by decide +kernel
theorem dX11_laysCrowds_1 : decode cX11_laysCrowds 1 = .ok (.iload_n 1, 1) := by decide +kernel
theorem dX11_laysCrowds_2 : decode cX11_laysCrowds 2 = .ok (.invokevirtual 122, 3) := by decide +kernel
theorem dX11_laysCrowds_5 : decode cX11_laysCrowds 5 = .ok (.istore_n 2, 1) := by decide +kernel
theorem dX11_laysCrowds_6 : decode cX11_laysCrowds 6 = .ok (.aload_n 0, 1) := by decide +kernel
theorem dX11_laysCrowds_7 : decode cX11_laysCrowds 7 = .ok (.iload_n 1, 1) := by decide +kernel
theorem dX11_laysCrowds_8 : decode cX11_laysCrowds 8 = .ok (.iload_n 2, 1) := by decide +kernel
theorem dX11_laysCrowds_9 : decode cX11_laysCrowds 9 = .ok (.invokevirtual 345, 3) := by decide +kernel
theorem dX11_laysCrowds_12 : decode cX11_laysCrowds 12 = .ok (.iconst 0, 1) := by decide +kernel
theorem dX11_laysCrowds_13 : decode cX11_laysCrowds 13 = .ok (.istore_n 3, 1) := by decide +kernel
theorem dX11_laysCrowds_14 : decode cX11_laysCrowds 14 = .ok (.iload_n 3, 1) := by decide +kernel
theorem dX11_laysCrowds_15 : decode cX11_laysCrowds 15 = .ok (.iconst 1, 1) := by decide +kernel
theorem dX11_laysCrowds_16 : decode cX11_laysCrowds 16 = .ok (.aload_n 0, 1) := by decide +kernel
theorem dX11_laysCrowds_17 : decode cX11_laysCrowds 17 = .ok (.invokevirtual 118, 3) := by decide +kernel
theorem dX11_laysCrowds_20 : decode cX11_laysCrowds 20 = .ok (.ishl, 1) := by decide +kernel
theorem dX11_laysCrowds_21 : decode cX11_laysCrowds 21 = .ok (.if_icmp .ge 107, 3) := by decide +kernel
theorem dX11_laysCrowds_24 : decode cX11_laysCrowds 24 = .ok (.aload_n 0, 1) := by decide +kernel
theorem dX11_laysCrowds_25 : decode cX11_laysCrowds 25 = .ok (.invokevirtual 118, 3) := by decide +kernel
theorem dX11_laysCrowds_28 : decode cX11_laysCrowds 28 = .ok (.iconst 1, 1) := by decide +kernel
theorem dX11_laysCrowds_29 : decode cX11_laysCrowds 29 = .ok (.isub, 1) := by decide +kernel
theorem dX11_laysCrowds_30 : decode cX11_laysCrowds 30 = .ok (.istore 4, 2) := by decide +kernel
theorem dX11_laysCrowds_32 : decode cX11_laysCrowds 32 = .ok (.iload 4, 2) := by decide +kernel
theorem dX11_laysCrowds_34 : decode cX11_laysCrowds 34 = .ok (.ifCond .le 18, 3) := by decide +kernel
theorem dX11_laysCrowds_37 : decode cX11_laysCrowds 37 = .ok (.iload_n 3, 1) := by decide +kernel
theorem dX11_laysCrowds_38 : decode cX11_laysCrowds 38 = .ok (.iload 4, 2) := by decide +kernel
theorem dX11_laysCrowds_40 : decode cX11_laysCrowds 40 = .ok (.invokestatic 335, 3) := by decide +kernel
theorem dX11_laysCrowds_43 : decode cX11_laysCrowds 43 = .ok (.ifCond .ne 9, 3) := by decide +kernel
theorem dX11_laysCrowds_46 : decode cX11_laysCrowds 46 = .ok (.iinc 4 (-1), 3) := by decide +kernel
theorem dX11_laysCrowds_49 : decode cX11_laysCrowds 49 = .ok (.goto (-17), 3) := by decide +kernel
theorem dX11_laysCrowds_52 : decode cX11_laysCrowds 52 = .ok (.iconst 0, 1) := by decide +kernel
theorem dX11_laysCrowds_53 : decode cX11_laysCrowds 53 = .ok (.istore 5, 2) := by decide +kernel
theorem dX11_laysCrowds_55 : decode cX11_laysCrowds 55 = .ok (.iload 5, 2) := by decide +kernel
theorem dX11_laysCrowds_57 : decode cX11_laysCrowds 57 = .ok (.iload_n 2, 1) := by decide +kernel
theorem dX11_laysCrowds_58 : decode cX11_laysCrowds 58 = .ok (.if_icmp .gt 64, 3) := by decide +kernel
theorem dX11_laysCrowds_61 : decode cX11_laysCrowds 61 = .ok (.iload 5, 2) := by decide +kernel
theorem dX11_laysCrowds_63 : decode cX11_laysCrowds 63 = .ok (.iload_n 2, 1) := by decide +kernel
theorem dX11_laysCrowds_64 : decode cX11_laysCrowds 64 = .ok (.iconst (-1), 1) := by decide +kernel
theorem dX11_laysCrowds_65 : decode cX11_laysCrowds 65 = .ok (.ixor, 1) := by decide +kernel
theorem dX11_laysCrowds_66 : decode cX11_laysCrowds 66 = .ok (.iand, 1) := by decide +kernel
theorem dX11_laysCrowds_67 : decode cX11_laysCrowds 67 = .ok (.ifCond .ne 49, 3) := by decide +kernel
theorem dX11_laysCrowds_70 : decode cX11_laysCrowds 70 = .ok (.aload_n 0, 1) := by decide +kernel
theorem dX11_laysCrowds_71 : decode cX11_laysCrowds 71 = .ok (.getfield 81, 3) := by decide +kernel
theorem dX11_laysCrowds_74 : decode cX11_laysCrowds 74 = .ok (.sipush 256, 3) := by decide +kernel
theorem dX11_laysCrowds_77 : decode cX11_laysCrowds 77 = .ok (.iload_n 3, 1) := by decide +kernel
theorem dX11_laysCrowds_78 : decode cX11_laysCrowds 78 = .ok (.imul, 1) := by decide +kernel
theorem dX11_laysCrowds_79 : decode cX11_laysCrowds 79 = .ok (.iload 5, 2) := by decide +kernel
theorem dX11_laysCrowds_81 : decode cX11_laysCrowds 81 = .ok (.iadd, 1) := by decide +kernel
theorem dX11_laysCrowds_82 : decode cX11_laysCrowds 82 = .ok (.iload_n 3, 1) := by decide +kernel
theorem dX11_laysCrowds_83 : decode cX11_laysCrowds 83 = .ok (.ifCond .ne 16, 3) := by decide +kernel
theorem dX11_laysCrowds_86 : decode cX11_laysCrowds 86 = .ok (.iload 5, 2) := by decide +kernel
theorem dX11_laysCrowds_88 : decode cX11_laysCrowds 88 = .ok (.ifCond .ne 7, 3) := by decide +kernel
theorem dX11_laysCrowds_91 : decode cX11_laysCrowds 91 = .ok (.iconst 1, 1) := by decide +kernel
theorem dX11_laysCrowds_92 : decode cX11_laysCrowds 92 = .ok (.goto 23, 3) := by decide +kernel
theorem dX11_laysCrowds_95 : decode cX11_laysCrowds 95 = .ok (.iconst 0, 1) := by decide +kernel
theorem dX11_laysCrowds_96 : decode cX11_laysCrowds 96 = .ok (.goto 19, 3) := by decide +kernel
theorem dX11_laysCrowds_99 : decode cX11_laysCrowds 99 = .ok (.aload_n 0, 1) := by decide +kernel
theorem dX11_laysCrowds_100 : decode cX11_laysCrowds 100 = .ok (.iload_n 3, 1) := by decide +kernel
theorem dX11_laysCrowds_101 : decode cX11_laysCrowds 101 = .ok (.iconst 1, 1) := by decide +kernel
theorem dX11_laysCrowds_102 : decode cX11_laysCrowds 102 = .ok (.iload 4, 2) := by decide +kernel
theorem dX11_laysCrowds_104 : decode cX11_laysCrowds 104 = .ok (.ishl, 1) := by decide +kernel
theorem dX11_laysCrowds_105 : decode cX11_laysCrowds 105 = .ok (.iconst (-1), 1) := by decide +kernel
theorem dX11_laysCrowds_106 : decode cX11_laysCrowds 106 = .ok (.ixor, 1) := by decide +kernel
theorem dX11_laysCrowds_107 : decode cX11_laysCrowds 107 = .ok (.iand, 1) := by decide +kernel
theorem dX11_laysCrowds_108 : decode cX11_laysCrowds 108 = .ok (.iload 4, 2) := by decide +kernel
theorem dX11_laysCrowds_110 : decode cX11_laysCrowds 110 = .ok (.iload 5, 2) := by decide +kernel
theorem dX11_laysCrowds_112 : decode cX11_laysCrowds 112 = .ok (.invokevirtual 372, 3) := by decide +kernel
theorem dX11_laysCrowds_115 : decode cX11_laysCrowds 115 = .ok (.bastore, 1) := by decide +kernel
theorem dX11_laysCrowds_116 : decode cX11_laysCrowds 116 = .ok (.iinc 5 1, 3) := by decide +kernel
theorem dX11_laysCrowds_119 : decode cX11_laysCrowds 119 = .ok (.goto (-64), 3) := by decide +kernel
theorem dX11_laysCrowds_122 : decode cX11_laysCrowds 122 = .ok (.iinc 3 1, 3) := by decide +kernel
theorem dX11_laysCrowds_125 : decode cX11_laysCrowds 125 = .ok (.goto (-111), 3) := by decide +kernel
theorem dX11_laysCrowds_128 : decode cX11_laysCrowds 128 = .ok (.return_, 1) := by decide +kernel
theorem dX11_cover_0 : decode cX11_cover 0 = .ok (.iload_n 1, 1) := by decide +kernel
theorem dX11_cover_1 : decode cX11_cover 1 = .ok (.iconst 0, 1) := by decide +kernel
theorem dX11_cover_2 : decode cX11_cover 2 = .ok (.iconst 1, 1) := by decide +kernel
theorem dX11_cover_3 : decode cX11_cover 3 = .ok (.invokestatic 18, 3) := by decide +kernel
theorem dX11_cover_6 : decode cX11_cover 6 = .ok (.ifCond .ne 5, 3) := by decide +kernel
theorem dX11_cover_9 : decode cX11_cover 9 = .ok (.iconst (-1), 1) := by decide +kernel
theorem dX11_cover_10 : decode cX11_cover 10 = .ok (.ireturn, 1) := by decide +kernel
theorem dX11_cover_11 : decode cX11_cover 11 = .ok (.iconst 1, 1) := by decide +kernel
theorem dX11_cover_12 : decode cX11_cover 12 = .ok (.aload_n 0, 1) := by decide +kernel
theorem dX11_cover_13 : decode cX11_cover 13 = .ok (.invokevirtual 118, 3) := by decide +kernel
theorem dX11_cover_16 : decode cX11_cover 16 = .ok (.ishl, 1) := by decide +kernel
theorem dX11_cover_17 : decode cX11_cover 17 = .ok (.istore_n 2, 1) := by decide +kernel
theorem dX11_cover_18 : decode cX11_cover 18 = .ok (.iconst 0, 1) := by decide +kernel
theorem dX11_cover_19 : decode cX11_cover 19 = .ok (.istore_n 3, 1) := by decide +kernel
theorem dX11_cover_20 : decode cX11_cover 20 = .ok (.iload_n 3, 1) := by decide +kernel
theorem dX11_cover_21 : decode cX11_cover 21 = .ok (.iload_n 2, 1) := by decide +kernel
theorem dX11_cover_22 : decode cX11_cover 22 = .ok (.if_icmp .ge 16, 3) := by decide +kernel
theorem dX11_cover_25 : decode cX11_cover 25 = .ok (.aload_n 0, 1) := by decide +kernel
theorem dX11_cover_26 : decode cX11_cover 26 = .ok (.getfield 84, 3) := by decide +kernel
theorem dX11_cover_29 : decode cX11_cover 29 = .ok (.iload_n 3, 1) := by decide +kernel
theorem dX11_cover_30 : decode cX11_cover 30 = .ok (.iconst 1, 1) := by decide +kernel
theorem dX11_cover_31 : decode cX11_cover 31 = .ok (.bastore, 1) := by decide +kernel
theorem dX11_cover_32 : decode cX11_cover 32 = .ok (.iinc 3 1, 3) := by decide +kernel
theorem dX11_cover_35 : decode cX11_cover 35 = .ok (.goto (-15), 3) := by decide +kernel
theorem dX11_cover_38 : decode cX11_cover 38 = .ok (.iconst 0, 1) := by decide +kernel
theorem dX11_cover_39 : decode cX11_cover 39 = .ok (.istore_n 3, 1) := by decide +kernel
theorem dX11_cover_40 : decode cX11_cover 40 = .ok (.iload_n 3, 1) := by decide +kernel
theorem dX11_cover_41 : decode cX11_cover 41 = .ok (.bipush 16, 2) := by decide +kernel
theorem dX11_cover_43 : decode cX11_cover 43 = .ok (.if_icmp .ge 71, 3) := by decide +kernel
theorem dX11_cover_46 : decode cX11_cover 46 = .ok (.aload_n 0, 1) := by decide +kernel
theorem dX11_cover_47 : decode cX11_cover 47 = .ok (.iload_n 3, 1) := by decide +kernel
theorem dX11_cover_48 : decode cX11_cover 48 = .ok (.invokevirtual 375, 3) := by decide +kernel
theorem dX11_cover_51 : decode cX11_cover 51 = .ok (.iconst 0, 1) := by decide +kernel
theorem dX11_cover_52 : decode cX11_cover 52 = .ok (.istore 4, 2) := by decide +kernel
theorem dX11_cover_54 : decode cX11_cover 54 = .ok (.iload 4, 2) := by decide +kernel
theorem dX11_cover_56 : decode cX11_cover 56 = .ok (.iload_n 2, 1) := by decide +kernel
theorem dX11_cover_57 : decode cX11_cover 57 = .ok (.if_icmp .ge 51, 3) := by decide +kernel
theorem dX11_cover_60 : decode cX11_cover 60 = .ok (.aload_n 0, 1) := by decide +kernel
theorem dX11_cover_61 : decode cX11_cover 61 = .ok (.getfield 84, 3) := by decide +kernel
theorem dX11_cover_64 : decode cX11_cover 64 = .ok (.iload 4, 2) := by decide +kernel
theorem dX11_cover_66 : decode cX11_cover 66 = .ok (.aload_n 0, 1) := by decide +kernel
theorem dX11_cover_67 : decode cX11_cover 67 = .ok (.getfield 84, 3) := by decide +kernel
theorem dX11_cover_70 : decode cX11_cover 70 = .ok (.iload 4, 2) := by decide +kernel
theorem dX11_cover_72 : decode cX11_cover 72 = .ok (.baload, 1) := by decide +kernel
theorem dX11_cover_73 : decode cX11_cover 73 = .ok (.ifCond .eq 27, 3) := by decide +kernel
theorem dX11_cover_76 : decode cX11_cover 76 = .ok (.aload_n 0, 1) := by decide +kernel
theorem dX11_cover_77 : decode cX11_cover 77 = .ok (.getfield 81, 3) := by decide +kernel
theorem dX11_cover_80 : decode cX11_cover 80 = .ok (.sipush 256, 3) := by decide +kernel
theorem dX11_cover_83 : decode cX11_cover 83 = .ok (.iload 4, 2) := by decide +kernel
theorem dX11_cover_85 : decode cX11_cover 85 = .ok (.imul, 1) := by decide +kernel
theorem dX11_cover_86 : decode cX11_cover 86 = .ok (.aload_n 0, 1) := by decide +kernel
theorem dX11_cover_87 : decode cX11_cover 87 = .ok (.iload_n 3, 1) := by decide +kernel
theorem dX11_cover_88 : decode cX11_cover 88 = .ok (.invokevirtual 122, 3) := by decide +kernel
theorem dX11_cover_91 : decode cX11_cover 91 = .ok (.iadd, 1) := by decide +kernel
theorem dX11_cover_92 : decode cX11_cover 92 = .ok (.baload, 1) := by decide +kernel
theorem dX11_cover_93 : decode cX11_cover 93 = .ok (.ifCond .eq 7, 3) := by decide +kernel
theorem dX11_cover_96 : decode cX11_cover 96 = .ok (.iconst 1, 1) := by decide +kernel
theorem dX11_cover_97 : decode cX11_cover 97 = .ok (.goto 4, 3) := by decide +kernel
theorem dX11_cover_100 : decode cX11_cover 100 = .ok (.iconst 0, 1) := by decide +kernel
theorem dX11_cover_101 : decode cX11_cover 101 = .ok (.bastore, 1) := by decide +kernel
theorem dX11_cover_102 : decode cX11_cover 102 = .ok (.iinc 4 1, 3) := by decide +kernel
theorem dX11_cover_105 : decode cX11_cover 105 = .ok (.goto (-51), 3) := by decide +kernel
theorem dX11_cover_108 : decode cX11_cover 108 = .ok (.iinc 3 1, 3) := by decide +kernel
theorem dX11_cover_111 : decode cX11_cover 111 = .ok (.goto (-71), 3) := by decide +kernel
theorem dX11_cover_114 : decode cX11_cover 114 = .ok (.iconst (-1), 1) := by decide +kernel
theorem dX11_cover_115 : decode cX11_cover 115 = .ok (.istore_n 3, 1) := by decide +kernel
theorem dX11_cover_116 : decode cX11_cover 116 = .ok (.iconst 0, 1) := by decide +kernel
theorem dX11_cover_117 : decode cX11_cover 117 = .ok (.istore 4, 2) := by decide +kernel
theorem dX11_cover_119 : decode cX11_cover 119 = .ok (.iload 4, 2) := by decide +kernel
theorem dX11_cover_121 : decode cX11_cover 121 = .ok (.iload_n 2, 1) := by decide +kernel
theorem dX11_cover_122 : decode cX11_cover 122 = .ok (.if_icmp .ge 39, 3) := by decide +kernel
theorem dX11_cover_125 : decode cX11_cover 125 = .ok (.aload_n 0, 1) := by decide +kernel
theorem dX11_cover_126 : decode cX11_cover 126 = .ok (.getfield 84, 3) := by decide +kernel
theorem dX11_cover_129 : decode cX11_cover 129 = .ok (.iload 4, 2) := by decide +kernel
theorem dX11_cover_131 : decode cX11_cover 131 = .ok (.baload, 1) := by decide +kernel
theorem dX11_cover_132 : decode cX11_cover 132 = .ok (.ifCond .eq 23, 3) := by decide +kernel
theorem dX11_cover_135 : decode cX11_cover 135 = .ok (.iload_n 3, 1) := by decide +kernel
theorem dX11_cover_136 : decode cX11_cover 136 = .ok (.iconst (-1), 1) := by decide +kernel
theorem dX11_cover_137 : decode cX11_cover 137 = .ok (.if_icmp .eq 15, 3) := by decide +kernel
theorem dX11_cover_140 : decode cX11_cover 140 = .ok (.iload 4, 2) := by decide +kernel
theorem dX11_cover_142 : decode cX11_cover 142 = .ok (.invokestatic 125, 3) := by decide +kernel
theorem dX11_cover_145 : decode cX11_cover 145 = .ok (.iload_n 3, 1) := by decide +kernel
theorem dX11_cover_146 : decode cX11_cover 146 = .ok (.invokestatic 125, 3) := by decide +kernel
theorem dX11_cover_149 : decode cX11_cover 149 = .ok (.if_icmp .ge 6, 3) := by decide +kernel
theorem dX11_cover_152 : decode cX11_cover 152 = .ok (.iload 4, 2) := by decide +kernel
theorem dX11_cover_154 : decode cX11_cover 154 = .ok (.istore_n 3, 1) := by decide +kernel
theorem dX11_cover_155 : decode cX11_cover 155 = .ok (.iinc 4 1, 3) := by decide +kernel
theorem dX11_cover_158 : decode cX11_cover 158 = .ok (.goto (-39), 3) := by decide +kernel
theorem dX11_cover_161 : decode cX11_cover 161 = .ok (.iload_n 3, 1) := by decide +kernel
theorem dX11_cover_162 : decode cX11_cover 162 = .ok (.iconst (-1), 1) := by decide +kernel
theorem dX11_cover_163 : decode cX11_cover 163 = .ok (.if_icmp .eq 8, 3) := by decide +kernel
theorem dX11_cover_166 : decode cX11_cover 166 = .ok (.iload_n 1, 1) := by decide +kernel
theorem dX11_cover_167 : decode cX11_cover 167 = .ok (.iconst 1, 1) := by decide +kernel
theorem dX11_cover_168 : decode cX11_cover 168 = .ok (.if_icmp .ne 7, 3) := by decide +kernel
theorem dX11_cover_171 : decode cX11_cover 171 = .ok (.iload_n 3, 1) := by decide +kernel
theorem dX11_cover_172 : decode cX11_cover 172 = .ok (.goto 7, 3) := by decide +kernel
theorem dX11_cover_175 : decode cX11_cover 175 = .ok (.iload_n 3, 1) := by decide +kernel
theorem dX11_cover_176 : decode cX11_cover 176 = .ok (.invokestatic 125, 3) := by decide +kernel
theorem dX11_cover_179 : decode cX11_cover 179 = .ok (.ireturn, 1) := by decide +kernel
theorem dX11_run_0 : decode cX11_run 0 = .ok (.iload_n 1, 1) := by decide +kernel
theorem dX11_run_1 : decode cX11_run 1 = .ok (.iconst 0, 1) := by decide +kernel
theorem dX11_run_2 : decode cX11_run 2 = .ok (.iconst 1, 1) := by decide +kernel
theorem dX11_run_3 : decode cX11_run 3 = .ok (.aload_n 0, 1) := by decide +kernel
theorem dX11_run_4 : decode cX11_run 4 = .ok (.invokevirtual 118, 3) := by decide +kernel
theorem dX11_run_7 : decode cX11_run 7 = .ok (.ishl, 1) := by decide +kernel
theorem dX11_run_8 : decode cX11_run 8 = .ok (.iconst 1, 1) := by decide +kernel
theorem dX11_run_9 : decode cX11_run 9 = .ok (.isub, 1) := by decide +kernel
theorem dX11_run_10 : decode cX11_run 10 = .ok (.invokestatic 18, 3) := by decide +kernel
theorem dX11_run_13 : decode cX11_run 13 = .ok (.ifCond .eq 12, 3) := by decide +kernel
theorem dX11_run_16 : decode cX11_run 16 = .ok (.iload_n 2, 1) := by decide +kernel
theorem dX11_run_17 : decode cX11_run 17 = .ok (.iconst 0, 1) := by decide +kernel
theorem dX11_run_18 : decode cX11_run 18 = .ok (.iconst 1, 1) := by decide +kernel
theorem dX11_run_19 : decode cX11_run 19 = .ok (.invokestatic 18, 3) := by decide +kernel
theorem dX11_run_22 : decode cX11_run 22 = .ok (.ifCond .ne 5, 3) := by decide +kernel
theorem dX11_run_25 : decode cX11_run 25 = .ok (.iconst (-1), 1) := by decide +kernel
theorem dX11_run_26 : decode cX11_run 26 = .ok (.ireturn, 1) := by decide +kernel
theorem dX11_run_27 : decode cX11_run 27 = .ok (.iconst 0, 1) := by decide +kernel
theorem dX11_run_28 : decode cX11_run 28 = .ok (.istore_n 3, 1) := by decide +kernel
theorem dX11_run_29 : decode cX11_run 29 = .ok (.iconst (-1), 1) := by decide +kernel
theorem dX11_run_30 : decode cX11_run 30 = .ok (.istore 4, 2) := by decide +kernel
theorem dX11_run_32 : decode cX11_run 32 = .ok (.iconst 0, 1) := by decide +kernel
theorem dX11_run_33 : decode cX11_run 33 = .ok (.istore 5, 2) := by decide +kernel
theorem dX11_run_35 : decode cX11_run 35 = .ok (.iconst 0, 1) := by decide +kernel
theorem dX11_run_36 : decode cX11_run 36 = .ok (.istore 6, 2) := by decide +kernel
theorem dX11_run_38 : decode cX11_run 38 = .ok (.iload 6, 2) := by decide +kernel
theorem dX11_run_40 : decode cX11_run 40 = .ok (.bipush 16, 2) := by decide +kernel
theorem dX11_run_42 : decode cX11_run 42 = .ok (.if_icmp .ge 66, 3) := by decide +kernel
theorem dX11_run_45 : decode cX11_run 45 = .ok (.aload_n 0, 1) := by decide +kernel
theorem dX11_run_46 : decode cX11_run 46 = .ok (.iload 6, 2) := by decide +kernel
theorem dX11_run_48 : decode cX11_run 48 = .ok (.invokevirtual 375, 3) := by decide +kernel
theorem dX11_run_51 : decode cX11_run 51 = .ok (.aload_n 0, 1) := by decide +kernel
theorem dX11_run_52 : decode cX11_run 52 = .ok (.getfield 81, 3) := by decide +kernel
theorem dX11_run_55 : decode cX11_run 55 = .ok (.sipush 256, 3) := by decide +kernel
theorem dX11_run_58 : decode cX11_run 58 = .ok (.iload_n 1, 1) := by decide +kernel
theorem dX11_run_59 : decode cX11_run 59 = .ok (.imul, 1) := by decide +kernel
theorem dX11_run_60 : decode cX11_run 60 = .ok (.aload_n 0, 1) := by decide +kernel
theorem dX11_run_61 : decode cX11_run 61 = .ok (.iload 6, 2) := by decide +kernel
theorem dX11_run_63 : decode cX11_run 63 = .ok (.invokevirtual 122, 3) := by decide +kernel
theorem dX11_run_66 : decode cX11_run 66 = .ok (.iadd, 1) := by decide +kernel
theorem dX11_run_67 : decode cX11_run 67 = .ok (.baload, 1) := by decide +kernel
theorem dX11_run_68 : decode cX11_run 68 = .ok (.ifCond .eq 10, 3) := by decide +kernel
theorem dX11_run_71 : decode cX11_run 71 = .ok (.iload 5, 2) := by decide +kernel
theorem dX11_run_73 : decode cX11_run 73 = .ok (.iconst 1, 1) := by decide +kernel
theorem dX11_run_74 : decode cX11_run 74 = .ok (.iadd, 1) := by decide +kernel
theorem dX11_run_75 : decode cX11_run 75 = .ok (.goto 4, 3) := by decide +kernel
theorem dX11_run_78 : decode cX11_run 78 = .ok (.iconst 0, 1) := by decide +kernel
theorem dX11_run_79 : decode cX11_run 79 = .ok (.istore 5, 2) := by decide +kernel
theorem dX11_run_81 : decode cX11_run 81 = .ok (.iload 5, 2) := by decide +kernel
theorem dX11_run_83 : decode cX11_run 83 = .ok (.iload_n 3, 1) := by decide +kernel
theorem dX11_run_84 : decode cX11_run 84 = .ok (.if_icmp .gt 6, 3) := by decide +kernel
theorem dX11_run_87 : decode cX11_run 87 = .ok (.goto 15, 3) := by decide +kernel
theorem dX11_run_90 : decode cX11_run 90 = .ok (.iload 5, 2) := by decide +kernel
theorem dX11_run_92 : decode cX11_run 92 = .ok (.istore_n 3, 1) := by decide +kernel
theorem dX11_run_93 : decode cX11_run 93 = .ok (.iload 6, 2) := by decide +kernel
theorem dX11_run_95 : decode cX11_run 95 = .ok (.iload 5, 2) := by decide +kernel
theorem dX11_run_97 : decode cX11_run 97 = .ok (.isub, 1) := by decide +kernel
theorem dX11_run_98 : decode cX11_run 98 = .ok (.iconst 1, 1) := by decide +kernel
theorem dX11_run_99 : decode cX11_run 99 = .ok (.iadd, 1) := by decide +kernel
theorem dX11_run_100 : decode cX11_run 100 = .ok (.istore 4, 2) := by decide +kernel
theorem dX11_run_102 : decode cX11_run 102 = .ok (.iinc 6 1, 3) := by decide +kernel
theorem dX11_run_105 : decode cX11_run 105 = .ok (.goto (-67), 3) := by decide +kernel
theorem dX11_run_108 : decode cX11_run 108 = .ok (.iload_n 2, 1) := by decide +kernel
theorem dX11_run_109 : decode cX11_run 109 = .ok (.ifCond .ne 7, 3) := by decide +kernel
theorem dX11_run_112 : decode cX11_run 112 = .ok (.iload_n 3, 1) := by decide +kernel
theorem dX11_run_113 : decode cX11_run 113 = .ok (.goto 5, 3) := by decide +kernel
theorem dX11_run_116 : decode cX11_run 116 = .ok (.iload 4, 2) := by decide +kernel
theorem dX11_run_118 : decode cX11_run 118 = .ok (.ireturn, 1) := by decide +kernel
theorem dX11_shifted_0 : decode cX11_shifted 0 = .ok (.iconst 0, 1) := by decide +kernel
theorem dX11_shifted_1 : decode cX11_shifted 1 = .ok (.istore_n 2, 1) := by decide +kernel
theorem dX11_shifted_2 : decode cX11_shifted 2 = .ok (.iconst 0, 1) := by decide +kernel
theorem dX11_shifted_3 : decode cX11_shifted 3 = .ok (.istore_n 3, 1) := by decide +kernel
theorem dX11_shifted_4 : decode cX11_shifted 4 = .ok (.iload_n 3, 1) := by decide +kernel
theorem dX11_shifted_5 : decode cX11_shifted 5 = .ok (.bipush 8, 2) := by decide +kernel
theorem dX11_shifted_7 : decode cX11_shifted 7 = .ok (.if_icmp .ge 39, 3) := by decide +kernel
theorem dX11_shifted_10 : decode cX11_shifted 10 = .ok (.iload_n 0, 1) := by decide +kernel
theorem dX11_shifted_11 : decode cX11_shifted 11 = .ok (.iload_n 3, 1) := by decide +kernel
theorem dX11_shifted_12 : decode cX11_shifted 12 = .ok (.invokestatic 335, 3) := by decide +kernel
theorem dX11_shifted_15 : decode cX11_shifted 15 = .ok (.ifCond .ne 6, 3) := by decide +kernel
theorem dX11_shifted_18 : decode cX11_shifted 18 = .ok (.goto 22, 3) := by decide +kernel
theorem dX11_shifted_21 : decode cX11_shifted 21 = .ok (.iload_n 3, 1) := by decide +kernel
theorem dX11_shifted_22 : decode cX11_shifted 22 = .ok (.iload_n 1, 1) := by decide +kernel
theorem dX11_shifted_23 : decode cX11_shifted 23 = .ok (.iadd, 1) := by decide +kernel
theorem dX11_shifted_24 : decode cX11_shifted 24 = .ok (.invokestatic 135, 3) := by decide +kernel
theorem dX11_shifted_27 : decode cX11_shifted 27 = .ok (.ifCond .ne 5, 3) := by decide +kernel
theorem dX11_shifted_30 : decode cX11_shifted 30 = .ok (.iconst (-1), 1) := by decide +kernel
theorem dX11_shifted_31 : decode cX11_shifted 31 = .ok (.ireturn, 1) := by decide +kernel
theorem dX11_shifted_32 : decode cX11_shifted 32 = .ok (.iload_n 2, 1) := by decide +kernel
theorem dX11_shifted_33 : decode cX11_shifted 33 = .ok (.iconst 1, 1) := by decide +kernel
theorem dX11_shifted_34 : decode cX11_shifted 34 = .ok (.iload_n 3, 1) := by decide +kernel
theorem dX11_shifted_35 : decode cX11_shifted 35 = .ok (.iload_n 1, 1) := by decide +kernel
theorem dX11_shifted_36 : decode cX11_shifted 36 = .ok (.iadd, 1) := by decide +kernel
theorem dX11_shifted_37 : decode cX11_shifted 37 = .ok (.ishl, 1) := by decide +kernel
theorem dX11_shifted_38 : decode cX11_shifted 38 = .ok (.ior, 1) := by decide +kernel
theorem dX11_shifted_39 : decode cX11_shifted 39 = .ok (.istore_n 2, 1) := by decide +kernel
theorem dX11_shifted_40 : decode cX11_shifted 40 = .ok (.iinc 3 1, 3) := by decide +kernel
theorem dX11_shifted_43 : decode cX11_shifted 43 = .ok (.goto (-39), 3) := by decide +kernel
theorem dX11_shifted_46 : decode cX11_shifted 46 = .ok (.iload_n 2, 1) := by decide +kernel
theorem dX11_shifted_47 : decode cX11_shifted 47 = .ok (.ireturn, 1) := by decide +kernel
theorem dX11_best_0 : decode cX11_best 0 = .ok (.iload_n 1, 1) := by decide +kernel
theorem dX11_best_1 : decode cX11_best 1 = .ok (.iconst 0, 1) := by decide +kernel
theorem dX11_best_2 : decode cX11_best 2 = .ok (.iconst 1, 1) := by decide +kernel
theorem dX11_best_3 : decode cX11_best 3 = .ok (.invokestatic 18, 3) := by decide +kernel
theorem dX11_best_6 : decode cX11_best 6 = .ok (.ifCond .ne 6, 3) := by decide +kernel
theorem dX11_best_9 : decode cX11_best 9 = .ok (.bipush (-100), 2) := by decide +kernel
theorem dX11_best_11 : decode cX11_best 11 = .ok (.ireturn, 1) := by decide +kernel
theorem dX11_best_12 : decode cX11_best 12 = .ok (.bipush (-100), 2) := by decide +kernel
theorem dX11_best_14 : decode cX11_best 14 = .ok (.istore_n 2, 1) := by decide +kernel
theorem dX11_best_15 : decode cX11_best 15 = .ok (.ldc_w 338, 3) := by decide +kernel
theorem dX11_best_18 : decode cX11_best 18 = .ok (.istore_n 3, 1) := by decide +kernel
theorem dX11_best_19 : decode cX11_best 19 = .ok (.bipush (-7), 2) := by decide +kernel
theorem dX11_best_21 : decode cX11_best 21 = .ok (.istore 4, 2) := by decide +kernel
theorem dX11_best_23 : decode cX11_best 23 = .ok (.iload 4, 2) := by decide +kernel
theorem dX11_best_25 : decode cX11_best 25 = .ok (.bipush 7, 2) := by decide +kernel
theorem dX11_best_27 : decode cX11_best 27 = .ok (.if_icmp .gt 32, 3) := by decide +kernel
theorem dX11_best_30 : decode cX11_best 30 = .ok (.aload_n 0, 1) := by decide +kernel
theorem dX11_best_31 : decode cX11_best 31 = .ok (.iload 4, 2) := by decide +kernel
theorem dX11_best_33 : decode cX11_best 33 = .ok (.invokevirtual 363, 3) := by decide +kernel
theorem dX11_best_36 : decode cX11_best 36 = .ok (.istore 5, 2) := by decide +kernel
theorem dX11_best_38 : decode cX11_best 38 = .ok (.iload 5, 2) := by decide +kernel
theorem dX11_best_40 : decode cX11_best 40 = .ok (.iload_n 3, 1) := by decide +kernel
theorem dX11_best_41 : decode cX11_best 41 = .ok (.if_icmp .lt 6, 3) := by decide +kernel
theorem dX11_best_44 : decode cX11_best 44 = .ok (.goto 9, 3) := by decide +kernel
theorem dX11_best_47 : decode cX11_best 47 = .ok (.iload 5, 2) := by decide +kernel
theorem dX11_best_49 : decode cX11_best 49 = .ok (.istore_n 3, 1) := by decide +kernel
theorem dX11_best_50 : decode cX11_best 50 = .ok (.iload 4, 2) := by decide +kernel
theorem dX11_best_52 : decode cX11_best 52 = .ok (.istore_n 2, 1) := by decide +kernel
theorem dX11_best_53 : decode cX11_best 53 = .ok (.iinc 4 1, 3) := by decide +kernel
theorem dX11_best_56 : decode cX11_best 56 = .ok (.goto (-33), 3) := by decide +kernel
theorem dX11_best_59 : decode cX11_best 59 = .ok (.iload_n 2, 1) := by decide +kernel
theorem dX11_best_60 : decode cX11_best 60 = .ok (.bipush (-100), 2) := by decide +kernel
theorem dX11_best_62 : decode cX11_best 62 = .ok (.if_icmp .eq 7, 3) := by decide +kernel
theorem dX11_best_65 : decode cX11_best 65 = .ok (.iload_n 1, 1) := by decide +kernel
theorem dX11_best_66 : decode cX11_best 66 = .ok (.ifCond .ne 7, 3) := by decide +kernel
theorem dX11_best_69 : decode cX11_best 69 = .ok (.iload_n 2, 1) := by decide +kernel
theorem dX11_best_70 : decode cX11_best 70 = .ok (.goto 4, 3) := by decide +kernel
theorem dX11_best_73 : decode cX11_best 73 = .ok (.iload_n 3, 1) := by decide +kernel
theorem dX11_best_74 : decode cX11_best 74 = .ok (.ireturn, 1) := by decide +kernel
theorem dX11_motif_0 : decode cX11_motif 0 = .ok (.iload_n 1, 1) := by decide +kernel
theorem dX11_motif_1 : decode cX11_motif 1 = .ok (.iconst 0, 1) := by decide +kernel
theorem dX11_motif_2 : decode cX11_motif 2 = .ok (.sipush 255, 3) := by decide +kernel
theorem dX11_motif_5 : decode cX11_motif 5 = .ok (.invokestatic 18, 3) := by decide +kernel
theorem dX11_motif_8 : decode cX11_motif 8 = .ok (.ifCond .ne 9, 3) := by decide +kernel
theorem dX11_motif_11 : decode cX11_motif 11 = .ok (.aload_n 0, 1) := by decide +kernel
theorem dX11_motif_12 : decode cX11_motif 12 = .ok (.iconst (-1), 1) := by decide +kernel
theorem dX11_motif_13 : decode cX11_motif 13 = .ok (.invokevirtual 112, 3) := by decide +kernel
theorem dX11_motif_16 : decode cX11_motif 16 = .ok (.ireturn, 1) := by decide +kernel
theorem dX11_motif_17 : decode cX11_motif 17 = .ok (.aload_n 0, 1) := by decide +kernel
theorem dX11_motif_18 : decode cX11_motif 18 = .ok (.getfield 28, 3) := by decide +kernel
theorem dX11_motif_21 : decode cX11_motif 21 = .ok (.bipush 46, 2) := by decide +kernel
theorem dX11_motif_23 : decode cX11_motif 23 = .ok (.iaload, 1) := by decide +kernel
theorem dX11_motif_24 : decode cX11_motif 24 = .ok (.istore_n 2, 1) := by decide +kernel
theorem dX11_motif_25 : decode cX11_motif 25 = .ok (.iload_n 2, 1) := by decide +kernel
theorem dX11_motif_26 : decode cX11_motif 26 = .ok (.bipush 6, 2) := by decide +kernel
theorem dX11_motif_28 : decode cX11_motif 28 = .ok (.if_icmp .ne 10, 3) := by decide +kernel
theorem dX11_motif_31 : decode cX11_motif 31 = .ok (.aload_n 0, 1) := by decide +kernel
theorem dX11_motif_32 : decode cX11_motif 32 = .ok (.bipush (-5), 2) := by decide +kernel
theorem dX11_motif_34 : decode cX11_motif 34 = .ok (.invokevirtual 112, 3) := by decide +kernel
theorem dX11_motif_37 : decode cX11_motif 37 = .ok (.ireturn, 1) := by decide +kernel
theorem dX11_motif_38 : decode cX11_motif 38 = .ok (.aload_n 0, 1) := by decide +kernel
theorem dX11_motif_39 : decode cX11_motif 39 = .ok (.getfield 28, 3) := by decide +kernel
theorem dX11_motif_42 : decode cX11_motif 42 = .ok (.bipush 37, 2) := by decide +kernel
theorem dX11_motif_44 : decode cX11_motif 44 = .ok (.iload_n 2, 1) := by decide +kernel
theorem dX11_motif_45 : decode cX11_motif 45 = .ok (.iadd, 1) := by decide +kernel
theorem dX11_motif_46 : decode cX11_motif 46 = .ok (.iload_n 1, 1) := by decide +kernel
theorem dX11_motif_47 : decode cX11_motif 47 = .ok (.iastore, 1) := by decide +kernel
theorem dX11_motif_48 : decode cX11_motif 48 = .ok (.aload_n 0, 1) := by decide +kernel
theorem dX11_motif_49 : decode cX11_motif 49 = .ok (.getfield 28, 3) := by decide +kernel
theorem dX11_motif_52 : decode cX11_motif 52 = .ok (.bipush 46, 2) := by decide +kernel
theorem dX11_motif_54 : decode cX11_motif 54 = .ok (.dup2, 1) := by decide +kernel
theorem dX11_motif_55 : decode cX11_motif 55 = .ok (.iaload, 1) := by decide +kernel
theorem dX11_motif_56 : decode cX11_motif 56 = .ok (.iconst 1, 1) := by decide +kernel
theorem dX11_motif_57 : decode cX11_motif 57 = .ok (.iadd, 1) := by decide +kernel
theorem dX11_motif_58 : decode cX11_motif 58 = .ok (.iastore, 1) := by decide +kernel
theorem dX11_motif_59 : decode cX11_motif 59 = .ok (.aload_n 0, 1) := by decide +kernel
theorem dX11_motif_60 : decode cX11_motif 60 = .ok (.iload_n 2, 1) := by decide +kernel
theorem dX11_motif_61 : decode cX11_motif 61 = .ok (.iconst 1, 1) := by decide +kernel
theorem dX11_motif_62 : decode cX11_motif 62 = .ok (.iadd, 1) := by decide +kernel
theorem dX11_motif_63 : decode cX11_motif 63 = .ok (.invokevirtual 14, 3) := by decide +kernel
theorem dX11_motif_66 : decode cX11_motif 66 = .ok (.ireturn, 1) := by decide +kernel
theorem dX11_forget_0 : decode cX11_forget 0 = .ok (.aload_n 0, 1) := by decide +kernel
theorem dX11_forget_1 : decode cX11_forget 1 = .ok (.getfield 28, 3) := by decide +kernel
theorem dX11_forget_4 : decode cX11_forget 4 = .ok (.bipush 46, 2) := by decide +kernel
theorem dX11_forget_6 : decode cX11_forget 6 = .ok (.iaload, 1) := by decide +kernel
theorem dX11_forget_7 : decode cX11_forget 7 = .ok (.istore_n 1, 1) := by decide +kernel
theorem dX11_forget_8 : decode cX11_forget 8 = .ok (.aload_n 0, 1) := by decide +kernel
theorem dX11_forget_9 : decode cX11_forget 9 = .ok (.getfield 28, 3) := by decide +kernel
theorem dX11_forget_12 : decode cX11_forget 12 = .ok (.bipush 46, 2) := by decide +kernel
theorem dX11_forget_14 : decode cX11_forget 14 = .ok (.iconst 0, 1) := by decide +kernel
theorem dX11_forget_15 : decode cX11_forget 15 = .ok (.iastore, 1) := by decide +kernel
theorem dX11_forget_16 : decode cX11_forget 16 = .ok (.iload_n 1, 1) := by decide +kernel
theorem dX11_forget_17 : decode cX11_forget 17 = .ok (.ireturn, 1) := by decide +kernel
theorem dX11_isFound_0 : decode cX11_isFound 0 = .ok (.iconst 1, 1) := by decide +kernel
theorem dX11_isFound_1 : decode cX11_isFound 1 = .ok (.istore_n 3, 1) := by decide +kernel
theorem dX11_isFound_2 : decode cX11_isFound 2 = .ok (.iconst 0, 1) := by decide +kernel
theorem dX11_isFound_3 : decode cX11_isFound 3 = .ok (.istore 4, 2) := by decide +kernel
theorem dX11_isFound_5 : decode cX11_isFound 5 = .ok (.iload 4, 2) := by decide +kernel
theorem dX11_isFound_7 : decode cX11_isFound 7 = .ok (.aload_n 0, 1) := by decide +kernel
theorem dX11_isFound_8 : decode cX11_isFound 8 = .ok (.getfield 28, 3) := by decide +kernel
theorem dX11_isFound_11 : decode cX11_isFound 11 = .ok (.bipush 46, 2) := by decide +kernel
theorem dX11_isFound_13 : decode cX11_isFound 13 = .ok (.iaload, 1) := by decide +kernel
theorem dX11_isFound_14 : decode cX11_isFound 14 = .ok (.if_icmp .ge 44, 3) := by decide +kernel
theorem dX11_isFound_17 : decode cX11_isFound 17 = .ok (.iload_n 3, 1) := by decide +kernel
theorem dX11_isFound_18 : decode cX11_isFound 18 = .ok (.ifCond .eq 40, 3) := by decide +kernel
theorem dX11_isFound_21 : decode cX11_isFound 21 = .ok (.aload_n 0, 1) := by decide +kernel
theorem dX11_isFound_22 : decode cX11_isFound 22 = .ok (.getfield 28, 3) := by decide +kernel
theorem dX11_isFound_25 : decode cX11_isFound 25 = .ok (.bipush 37, 2) := by decide +kernel
theorem dX11_isFound_27 : decode cX11_isFound 27 = .ok (.iload 4, 2) := by decide +kernel
theorem dX11_isFound_29 : decode cX11_isFound 29 = .ok (.iadd, 1) := by decide +kernel
theorem dX11_isFound_30 : decode cX11_isFound 30 = .ok (.iaload, 1) := by decide +kernel
theorem dX11_isFound_31 : decode cX11_isFound 31 = .ok (.iload_n 2, 1) := by decide +kernel
theorem dX11_isFound_32 : decode cX11_isFound 32 = .ok (.invokestatic 360, 3) := by decide +kernel
theorem dX11_isFound_35 : decode cX11_isFound 35 = .ok (.aload_n 0, 1) := by decide +kernel
theorem dX11_isFound_36 : decode cX11_isFound 36 = .ok (.iload_n 1, 1) := by decide +kernel
theorem dX11_isFound_37 : decode cX11_isFound 37 = .ok (.iload 4, 2) := by decide +kernel
theorem dX11_isFound_39 : decode cX11_isFound 39 = .ok (.iadd, 1) := by decide +kernel
theorem dX11_isFound_40 : decode cX11_isFound 40 = .ok (.invokevirtual 122, 3) := by decide +kernel
theorem dX11_isFound_43 : decode cX11_isFound 43 = .ok (.if_icmp .ne 7, 3) := by decide +kernel
theorem dX11_isFound_46 : decode cX11_isFound 46 = .ok (.iconst 1, 1) := by decide +kernel
theorem dX11_isFound_47 : decode cX11_isFound 47 = .ok (.goto 4, 3) := by decide +kernel
theorem dX11_isFound_50 : decode cX11_isFound 50 = .ok (.iconst 0, 1) := by decide +kernel
theorem dX11_isFound_51 : decode cX11_isFound 51 = .ok (.istore_n 3, 1) := by decide +kernel
theorem dX11_isFound_52 : decode cX11_isFound 52 = .ok (.iinc 4 1, 3) := by decide +kernel
theorem dX11_isFound_55 : decode cX11_isFound 55 = .ok (.goto (-50), 3) := by decide +kernel
theorem dX11_isFound_58 : decode cX11_isFound 58 = .ok (.iload_n 3, 1) := by decide +kernel
theorem dX11_isFound_59 : decode cX11_isFound 59 = .ok (.ireturn, 1) := by decide +kernel
theorem dX11_isSilent_0 : decode cX11_isSilent 0 = .ok (.iconst 1, 1) := by decide +kernel
theorem dX11_isSilent_1 : decode cX11_isSilent 1 = .ok (.istore_n 1, 1) := by decide +kernel
theorem dX11_isSilent_2 : decode cX11_isSilent 2 = .ok (.iconst 0, 1) := by decide +kernel
theorem dX11_isSilent_3 : decode cX11_isSilent 3 = .ok (.istore_n 2, 1) := by decide +kernel
theorem dX11_isSilent_4 : decode cX11_isSilent 4 = .ok (.iload_n 2, 1) := by decide +kernel
theorem dX11_isSilent_5 : decode cX11_isSilent 5 = .ok (.aload_n 0, 1) := by decide +kernel
theorem dX11_isSilent_6 : decode cX11_isSilent 6 = .ok (.getfield 28, 3) := by decide +kernel
theorem dX11_isSilent_9 : decode cX11_isSilent 9 = .ok (.bipush 46, 2) := by decide +kernel
theorem dX11_isSilent_11 : decode cX11_isSilent 11 = .ok (.iaload, 1) := by decide +kernel
theorem dX11_isSilent_12 : decode cX11_isSilent 12 = .ok (.if_icmp .ge 31, 3) := by decide +kernel
theorem dX11_isSilent_15 : decode cX11_isSilent 15 = .ok (.iload_n 1, 1) := by decide +kernel
theorem dX11_isSilent_16 : decode cX11_isSilent 16 = .ok (.ifCond .eq 19, 3) := by decide +kernel
theorem dX11_isSilent_19 : decode cX11_isSilent 19 = .ok (.aload_n 0, 1) := by decide +kernel
theorem dX11_isSilent_20 : decode cX11_isSilent 20 = .ok (.getfield 28, 3) := by decide +kernel
theorem dX11_isSilent_23 : decode cX11_isSilent 23 = .ok (.bipush 37, 2) := by decide +kernel
theorem dX11_isSilent_25 : decode cX11_isSilent 25 = .ok (.iload_n 2, 1) := by decide +kernel
theorem dX11_isSilent_26 : decode cX11_isSilent 26 = .ok (.iadd, 1) := by decide +kernel
theorem dX11_isSilent_27 : decode cX11_isSilent 27 = .ok (.iaload, 1) := by decide +kernel
theorem dX11_isSilent_28 : decode cX11_isSilent 28 = .ok (.ifCond .ne 7, 3) := by decide +kernel
theorem dX11_isSilent_31 : decode cX11_isSilent 31 = .ok (.iconst 1, 1) := by decide +kernel
theorem dX11_isSilent_32 : decode cX11_isSilent 32 = .ok (.goto 4, 3) := by decide +kernel
theorem dX11_isSilent_35 : decode cX11_isSilent 35 = .ok (.iconst 0, 1) := by decide +kernel
theorem dX11_isSilent_36 : decode cX11_isSilent 36 = .ok (.istore_n 1, 1) := by decide +kernel
theorem dX11_isSilent_37 : decode cX11_isSilent 37 = .ok (.iinc 2 1, 3) := by decide +kernel
theorem dX11_isSilent_40 : decode cX11_isSilent 40 = .ok (.goto (-36), 3) := by decide +kernel
theorem dX11_isSilent_43 : decode cX11_isSilent 43 = .ok (.iload_n 1, 1) := by decide +kernel
theorem dX11_isSilent_44 : decode cX11_isSilent 44 = .ok (.ireturn, 1) := by decide +kernel
theorem dX11_find_0 : decode cX11_find 0 = .ok (.iload_n 1, 1) := by decide +kernel
theorem dX11_find_1 : decode cX11_find 1 = .ok (.iconst (-1), 1) := by decide +kernel
theorem dX11_find_2 : decode cX11_find 2 = .ok (.if_icmp .lt 13, 3) := by decide +kernel
theorem dX11_find_5 : decode cX11_find 5 = .ok (.aload_n 0, 1) := by decide +kernel
theorem dX11_find_6 : decode cX11_find 6 = .ok (.getfield 28, 3) := by decide +kernel
theorem dX11_find_9 : decode cX11_find 9 = .ok (.bipush 46, 2) := by decide +kernel
theorem dX11_find_11 : decode cX11_find 11 = .ok (.iaload, 1) := by decide +kernel
theorem dX11_find_12 : decode cX11_find 12 = .ok (.ifCond .ne 5, 3) := by decide +kernel
theorem dX11_find_15 : decode cX11_find 15 = .ok (.iconst (-1), 1) := by decide +kernel
theorem dX11_find_16 : decode cX11_find 16 = .ok (.ireturn, 1) := by decide +kernel
theorem dX11_find_17 : decode cX11_find 17 = .ok (.aload_n 0, 1) := by decide +kernel
theorem dX11_find_18 : decode cX11_find 18 = .ok (.invokevirtual 378, 3) := by decide +kernel
theorem dX11_find_21 : decode cX11_find 21 = .ok (.ifCond .eq 7, 3) := by decide +kernel
theorem dX11_find_24 : decode cX11_find 24 = .ok (.iconst 0, 1) := by decide +kernel
theorem dX11_find_25 : decode cX11_find 25 = .ok (.goto 5, 3) := by decide +kernel
theorem dX11_find_28 : decode cX11_find 28 = .ok (.bipush 7, 2) := by decide +kernel
theorem dX11_find_30 : decode cX11_find 30 = .ok (.istore_n 2, 1) := by decide +kernel
theorem dX11_find_31 : decode cX11_find 31 = .ok (.iconst 0, 1) := by decide +kernel
theorem dX11_find_32 : decode cX11_find 32 = .ok (.istore_n 3, 1) := by decide +kernel
theorem dX11_find_33 : decode cX11_find 33 = .ok (.iconst 0, 1) := by decide +kernel
theorem dX11_find_34 : decode cX11_find 34 = .ok (.istore 4, 2) := by decide +kernel
theorem dX11_find_36 : decode cX11_find 36 = .ok (.iload 4, 2) := by decide +kernel
theorem dX11_find_38 : decode cX11_find 38 = .ok (.bipush 16, 2) := by decide +kernel
theorem dX11_find_40 : decode cX11_find 40 = .ok (.aload_n 0, 1) := by decide +kernel
theorem dX11_find_41 : decode cX11_find 41 = .ok (.getfield 28, 3) := by decide +kernel
theorem dX11_find_44 : decode cX11_find 44 = .ok (.bipush 46, 2) := by decide +kernel
theorem dX11_find_46 : decode cX11_find 46 = .ok (.iaload, 1) := by decide +kernel
theorem dX11_find_47 : decode cX11_find 47 = .ok (.isub, 1) := by decide +kernel
theorem dX11_find_48 : decode cX11_find 48 = .ok (.if_icmp .gt 59, 3) := by decide +kernel
theorem dX11_find_51 : decode cX11_find 51 = .ok (.iload_n 2, 1) := by decide +kernel
theorem dX11_find_52 : decode cX11_find 52 = .ok (.ineg, 1) := by decide +kernel
theorem dX11_find_53 : decode cX11_find 53 = .ok (.istore 5, 2) := by decide +kernel
theorem dX11_find_55 : decode cX11_find 55 = .ok (.iload 5, 2) := by decide +kernel
theorem dX11_find_57 : decode cX11_find 57 = .ok (.iload_n 2, 1) := by decide +kernel
theorem dX11_find_58 : decode cX11_find 58 = .ok (.if_icmp .gt 43, 3) := by decide +kernel
theorem dX11_find_61 : decode cX11_find 61 = .ok (.aload_n 0, 1) := by decide +kernel
theorem dX11_find_62 : decode cX11_find 62 = .ok (.iload 4, 2) := by decide +kernel
theorem dX11_find_64 : decode cX11_find 64 = .ok (.iload 5, 2) := by decide +kernel
theorem dX11_find_66 : decode cX11_find 66 = .ok (.invokevirtual 381, 3) := by decide +kernel
theorem dX11_find_69 : decode cX11_find 69 = .ok (.ifCond .ne 6, 3) := by decide +kernel
theorem dX11_find_72 : decode cX11_find 72 = .ok (.goto 23, 3) := by decide +kernel
theorem dX11_find_75 : decode cX11_find 75 = .ok (.iload_n 3, 1) := by decide +kernel
theorem dX11_find_76 : decode cX11_find 76 = .ok (.iload_n 1, 1) := by decide +kernel
theorem dX11_find_77 : decode cX11_find 77 = .ok (.if_icmp .ne 15, 3) := by decide +kernel
theorem dX11_find_80 : decode cX11_find 80 = .ok (.bipush 100, 2) := by decide +kernel
theorem dX11_find_82 : decode cX11_find 82 = .ok (.iload 4, 2) := by decide +kernel
theorem dX11_find_84 : decode cX11_find 84 = .ok (.imul, 1) := by decide +kernel
theorem dX11_find_85 : decode cX11_find 85 = .ok (.iload 5, 2) := by decide +kernel
theorem dX11_find_87 : decode cX11_find 87 = .ok (.iadd, 1) := by decide +kernel
theorem dX11_find_88 : decode cX11_find 88 = .ok (.bipush 7, 2) := by decide +kernel
theorem dX11_find_90 : decode cX11_find 90 = .ok (.iadd, 1) := by decide +kernel
theorem dX11_find_91 : decode cX11_find 91 = .ok (.ireturn, 1) := by decide +kernel
theorem dX11_find_92 : decode cX11_find 92 = .ok (.iinc 3 1, 3) := by decide +kernel
theorem dX11_find_95 : decode cX11_find 95 = .ok (.iinc 5 1, 3) := by decide +kernel
theorem dX11_find_98 : decode cX11_find 98 = .ok (.goto (-43), 3) := by decide +kernel
theorem dX11_find_101 : decode cX11_find 101 = .ok (.iinc 4 1, 3) := by decide +kernel
theorem dX11_find_104 : decode cX11_find 104 = .ok (.goto (-68), 3) := by decide +kernel
theorem dX11_find_107 : decode cX11_find 107 = .ok (.iload_n 1, 1) := by decide +kernel
theorem dX11_find_108 : decode cX11_find 108 = .ok (.iconst (-1), 1) := by decide +kernel
theorem dX11_find_109 : decode cX11_find 109 = .ok (.if_icmp .ne 7, 3) := by decide +kernel
theorem dX11_find_112 : decode cX11_find 112 = .ok (.iload_n 3, 1) := by decide +kernel
theorem dX11_find_113 : decode cX11_find 113 = .ok (.goto 4, 3) := by decide +kernel
theorem dX11_find_116 : decode cX11_find 116 = .ok (.iconst (-1), 1) := by decide +kernel
theorem dX11_find_117 : decode cX11_find 117 = .ok (.ireturn, 1) := by decide +kernel
theorem dX11_laysDebts_0 : decode cX11_laysDebts 0 = .ok (.iconst 0, 1) := by decide +kernel
theorem dX11_laysDebts_1 : decode cX11_laysDebts 1 = .ok (.istore_n 1, 1) := by decide +kernel
theorem dX11_laysDebts_2 : decode cX11_laysDebts 2 = .ok (.iload_n 1, 1) := by decide +kernel
theorem dX11_laysDebts_3 : decode cX11_laysDebts 3 = .ok (.bipush 36, 2) := by decide +kernel
theorem dX11_laysDebts_5 : decode cX11_laysDebts 5 = .ok (.if_icmp .ge 16, 3) := by decide +kernel
theorem dX11_laysDebts_8 : decode cX11_laysDebts 8 = .ok (.aload_n 0, 1) := by decide +kernel
theorem dX11_laysDebts_9 : decode cX11_laysDebts 9 = .ok (.getfield 87, 3) := by decide +kernel
theorem dX11_laysDebts_12 : decode cX11_laysDebts 12 = .ok (.iload_n 1, 1) := by decide +kernel
theorem dX11_laysDebts_13 : decode cX11_laysDebts 13 = .ok (.iconst 0, 1) := by decide +kernel
theorem dX11_laysDebts_14 : decode cX11_laysDebts 14 = .ok (.iastore, 1) := by decide +kernel
theorem dX11_laysDebts_15 : decode cX11_laysDebts 15 = .ok (.iinc 1 1, 3) := by decide +kernel
theorem dX11_laysDebts_18 : decode cX11_laysDebts 18 = .ok (.goto (-16), 3) := by decide +kernel
theorem dX11_laysDebts_21 : decode cX11_laysDebts 21 = .ok (.iconst 1, 1) := by decide +kernel
theorem dX11_laysDebts_22 : decode cX11_laysDebts 22 = .ok (.istore_n 1, 1) := by decide +kernel
theorem dX11_laysDebts_23 : decode cX11_laysDebts 23 = .ok (.iconst 0, 1) := by decide +kernel
theorem dX11_laysDebts_24 : decode cX11_laysDebts 24 = .ok (.istore_n 2, 1) := by decide +kernel
theorem dX11_laysDebts_25 : decode cX11_laysDebts 25 = .ok (.iload_n 2, 1) := by decide +kernel
theorem dX11_laysDebts_26 : decode cX11_laysDebts 26 = .ok (.bipush 16, 2) := by decide +kernel
theorem dX11_laysDebts_28 : decode cX11_laysDebts 28 = .ok (.if_icmp .ge 99, 3) := by decide +kernel
theorem dX11_laysDebts_31 : decode cX11_laysDebts 31 = .ok (.iload_n 1, 1) := by decide +kernel
theorem dX11_laysDebts_32 : decode cX11_laysDebts 32 = .ok (.ifCond .eq 95, 3) := by decide +kernel
theorem dX11_laysDebts_35 : decode cX11_laysDebts 35 = .ok (.aload_n 0, 1) := by decide +kernel
theorem dX11_laysDebts_36 : decode cX11_laysDebts 36 = .ok (.iload_n 2, 1) := by decide +kernel
theorem dX11_laysDebts_37 : decode cX11_laysDebts 37 = .ok (.invokevirtual 369, 3) := by decide +kernel
theorem dX11_laysDebts_40 : decode cX11_laysDebts 40 = .ok (.istore_n 1, 1) := by decide +kernel
theorem dX11_laysDebts_41 : decode cX11_laysDebts 41 = .ok (.iconst 0, 1) := by decide +kernel
theorem dX11_laysDebts_42 : decode cX11_laysDebts 42 = .ok (.istore_n 3, 1) := by decide +kernel
theorem dX11_laysDebts_43 : decode cX11_laysDebts 43 = .ok (.iload_n 3, 1) := by decide +kernel
theorem dX11_laysDebts_44 : decode cX11_laysDebts 44 = .ok (.bipush 8, 2) := by decide +kernel
theorem dX11_laysDebts_46 : decode cX11_laysDebts 46 = .ok (.if_icmp .ge 75, 3) := by decide +kernel
theorem dX11_laysDebts_49 : decode cX11_laysDebts 49 = .ok (.aload_n 0, 1) := by decide +kernel
theorem dX11_laysDebts_50 : decode cX11_laysDebts 50 = .ok (.getfield 78, 3) := by decide +kernel
theorem dX11_laysDebts_53 : decode cX11_laysDebts 53 = .ok (.iload_n 3, 1) := by decide +kernel
theorem dX11_laysDebts_54 : decode cX11_laysDebts 54 = .ok (.iaload, 1) := by decide +kernel
theorem dX11_laysDebts_55 : decode cX11_laysDebts 55 = .ok (.iconst (-1), 1) := by decide +kernel
theorem dX11_laysDebts_56 : decode cX11_laysDebts 56 = .ok (.if_icmp .eq 59, 3) := by decide +kernel
theorem dX11_laysDebts_59 : decode cX11_laysDebts 59 = .ok (.aload_n 0, 1) := by decide +kernel
theorem dX11_laysDebts_60 : decode cX11_laysDebts 60 = .ok (.getfield 28, 3) := by decide +kernel
theorem dX11_laysDebts_63 : decode cX11_laysDebts 63 = .ok (.iconst 0, 1) := by decide +kernel
theorem dX11_laysDebts_64 : decode cX11_laysDebts 64 = .ok (.iload_n 3, 1) := by decide +kernel
theorem dX11_laysDebts_65 : decode cX11_laysDebts 65 = .ok (.iadd, 1) := by decide +kernel
theorem dX11_laysDebts_66 : decode cX11_laysDebts 66 = .ok (.iaload, 1) := by decide +kernel
theorem dX11_laysDebts_67 : decode cX11_laysDebts 67 = .ok (.iconst (-1), 1) := by decide +kernel
theorem dX11_laysDebts_68 : decode cX11_laysDebts 68 = .ok (.if_icmp .eq 47, 3) := by decide +kernel
theorem dX11_laysDebts_71 : decode cX11_laysDebts 71 = .ok (.aload_n 0, 1) := by decide +kernel
theorem dX11_laysDebts_72 : decode cX11_laysDebts 72 = .ok (.getfield 28, 3) := by decide +kernel
theorem dX11_laysDebts_75 : decode cX11_laysDebts 75 = .ok (.iconst 0, 1) := by decide +kernel
theorem dX11_laysDebts_76 : decode cX11_laysDebts 76 = .ok (.iload_n 3, 1) := by decide +kernel
theorem dX11_laysDebts_77 : decode cX11_laysDebts 77 = .ok (.iadd, 1) := by decide +kernel
theorem dX11_laysDebts_78 : decode cX11_laysDebts 78 = .ok (.iaload, 1) := by decide +kernel
theorem dX11_laysDebts_79 : decode cX11_laysDebts 79 = .ok (.aload_n 0, 1) := by decide +kernel
theorem dX11_laysDebts_80 : decode cX11_laysDebts 80 = .ok (.getfield 78, 3) := by decide +kernel
theorem dX11_laysDebts_83 : decode cX11_laysDebts 83 = .ok (.iload_n 3, 1) := by decide +kernel
theorem dX11_laysDebts_84 : decode cX11_laysDebts 84 = .ok (.iaload, 1) := by decide +kernel
theorem dX11_laysDebts_85 : decode cX11_laysDebts 85 = .ok (.if_icmp .eq 30, 3) := by decide +kernel
theorem dX11_laysDebts_88 : decode cX11_laysDebts 88 = .ok (.aload_n 0, 1) := by decide +kernel
theorem dX11_laysDebts_89 : decode cX11_laysDebts 89 = .ok (.getfield 87, 3) := by decide +kernel
theorem dX11_laysDebts_92 : decode cX11_laysDebts 92 = .ok (.bipush 6, 2) := by decide +kernel
theorem dX11_laysDebts_94 : decode cX11_laysDebts 94 = .ok (.aload_n 0, 1) := by decide +kernel
theorem dX11_laysDebts_95 : decode cX11_laysDebts 95 = .ok (.getfield 78, 3) := by decide +kernel
theorem dX11_laysDebts_98 : decode cX11_laysDebts 98 = .ok (.iload_n 3, 1) := by decide +kernel
theorem dX11_laysDebts_99 : decode cX11_laysDebts 99 = .ok (.iaload, 1) := by decide +kernel
theorem dX11_laysDebts_100 : decode cX11_laysDebts 100 = .ok (.imul, 1) := by decide +kernel
theorem dX11_laysDebts_101 : decode cX11_laysDebts 101 = .ok (.aload_n 0, 1) := by decide +kernel
theorem dX11_laysDebts_102 : decode cX11_laysDebts 102 = .ok (.getfield 28, 3) := by decide +kernel
theorem dX11_laysDebts_105 : decode cX11_laysDebts 105 = .ok (.iconst 0, 1) := by decide +kernel
theorem dX11_laysDebts_106 : decode cX11_laysDebts 106 = .ok (.iload_n 3, 1) := by decide +kernel
theorem dX11_laysDebts_107 : decode cX11_laysDebts 107 = .ok (.iadd, 1) := by decide +kernel
theorem dX11_laysDebts_108 : decode cX11_laysDebts 108 = .ok (.iaload, 1) := by decide +kernel
theorem dX11_laysDebts_109 : decode cX11_laysDebts 109 = .ok (.iadd, 1) := by decide +kernel
theorem dX11_laysDebts_110 : decode cX11_laysDebts 110 = .ok (.dup2, 1) := by decide +kernel
theorem dX11_laysDebts_111 : decode cX11_laysDebts 111 = .ok (.iaload, 1) := by decide +kernel
theorem dX11_laysDebts_112 : decode cX11_laysDebts 112 = .ok (.iconst 1, 1) := by decide +kernel
theorem dX11_laysDebts_113 : decode cX11_laysDebts 113 = .ok (.iadd, 1) := by decide +kernel
theorem dX11_laysDebts_114 : decode cX11_laysDebts 114 = .ok (.iastore, 1) := by decide +kernel
theorem dX11_laysDebts_115 : decode cX11_laysDebts 115 = .ok (.iinc 3 1, 3) := by decide +kernel
theorem dX11_laysDebts_118 : decode cX11_laysDebts 118 = .ok (.goto (-75), 3) := by decide +kernel
theorem dX11_laysDebts_121 : decode cX11_laysDebts 121 = .ok (.iinc 2 1, 3) := by decide +kernel
theorem dX11_laysDebts_124 : decode cX11_laysDebts 124 = .ok (.goto (-99), 3) := by decide +kernel
theorem dX11_laysDebts_127 : decode cX11_laysDebts 127 = .ok (.iload_n 1, 1) := by decide +kernel
theorem dX11_laysDebts_128 : decode cX11_laysDebts 128 = .ok (.ireturn, 1) := by decide +kernel
theorem dX11_owes_0 : decode cX11_owes 0 = .ok (.aload_n 0, 1) := by decide +kernel
theorem dX11_owes_1 : decode cX11_owes 1 = .ok (.iload_n 1, 1) := by decide +kernel
theorem dX11_owes_2 : decode cX11_owes 2 = .ok (.invokevirtual 128, 3) := by decide +kernel
theorem dX11_owes_5 : decode cX11_owes 5 = .ok (.ifCond .eq 23, 3) := by decide +kernel
theorem dX11_owes_8 : decode cX11_owes 8 = .ok (.aload_n 0, 1) := by decide +kernel
theorem dX11_owes_9 : decode cX11_owes 9 = .ok (.iload_n 2, 1) := by decide +kernel
theorem dX11_owes_10 : decode cX11_owes 10 = .ok (.invokevirtual 128, 3) := by decide +kernel
theorem dX11_owes_13 : decode cX11_owes 13 = .ok (.ifCond .eq 15, 3) := by decide +kernel
theorem dX11_owes_16 : decode cX11_owes 16 = .ok (.iload_n 1, 1) := by decide +kernel
theorem dX11_owes_17 : decode cX11_owes 17 = .ok (.iload_n 2, 1) := by decide +kernel
theorem dX11_owes_18 : decode cX11_owes 18 = .ok (.if_icmp .eq 10, 3) := by decide +kernel
theorem dX11_owes_21 : decode cX11_owes 21 = .ok (.aload_n 0, 1) := by decide +kernel
theorem dX11_owes_22 : decode cX11_owes 22 = .ok (.invokevirtual 384, 3) := by decide +kernel
theorem dX11_owes_25 : decode cX11_owes 25 = .ok (.ifCond .ne 5, 3) := by decide +kernel
theorem dX11_owes_28 : decode cX11_owes 28 = .ok (.iconst (-1), 1) := by decide +kernel
theorem dX11_owes_29 : decode cX11_owes 29 = .ok (.ireturn, 1) := by decide +kernel
theorem dX11_owes_30 : decode cX11_owes 30 = .ok (.aload_n 0, 1) := by decide +kernel
theorem dX11_owes_31 : decode cX11_owes 31 = .ok (.getfield 87, 3) := by decide +kernel
theorem dX11_owes_34 : decode cX11_owes 34 = .ok (.bipush 6, 2) := by decide +kernel
theorem dX11_owes_36 : decode cX11_owes 36 = .ok (.iload_n 1, 1) := by decide +kernel
theorem dX11_owes_37 : decode cX11_owes 37 = .ok (.imul, 1) := by decide +kernel
theorem dX11_owes_38 : decode cX11_owes 38 = .ok (.iload_n 2, 1) := by decide +kernel
theorem dX11_owes_39 : decode cX11_owes 39 = .ok (.iadd, 1) := by decide +kernel
theorem dX11_owes_40 : decode cX11_owes 40 = .ok (.iaload, 1) := by decide +kernel
theorem dX11_owes_41 : decode cX11_owes 41 = .ok (.ireturn, 1) := by decide +kernel
theorem dX11_owedMore_0 : decode cX11_owedMore 0 = .ok (.iconst 0, 1) := by decide +kernel
theorem dX11_owedMore_1 : decode cX11_owedMore 1 = .ok (.istore_n 2, 1) := by decide +kernel
theorem dX11_owedMore_2 : decode cX11_owedMore 2 = .ok (.iconst 0, 1) := by decide +kernel
theorem dX11_owedMore_3 : decode cX11_owedMore 3 = .ok (.istore_n 3, 1) := by decide +kernel
theorem dX11_owedMore_4 : decode cX11_owedMore 4 = .ok (.iload_n 3, 1) := by decide +kernel
theorem dX11_owedMore_5 : decode cX11_owedMore 5 = .ok (.bipush 6, 2) := by decide +kernel
theorem dX11_owedMore_7 : decode cX11_owedMore 7 = .ok (.if_icmp .ge 94, 3) := by decide +kernel
theorem dX11_owedMore_10 : decode cX11_owedMore 10 = .ok (.iconst 0, 1) := by decide +kernel
theorem dX11_owedMore_11 : decode cX11_owedMore 11 = .ok (.istore 4, 2) := by decide +kernel
theorem dX11_owedMore_13 : decode cX11_owedMore 13 = .ok (.iload 4, 2) := by decide +kernel
theorem dX11_owedMore_15 : decode cX11_owedMore 15 = .ok (.bipush 6, 2) := by decide +kernel
theorem dX11_owedMore_17 : decode cX11_owedMore 17 = .ok (.if_icmp .ge 78, 3) := by decide +kernel
theorem dX11_owedMore_20 : decode cX11_owedMore 20 = .ok (.iload_n 2, 1) := by decide +kernel
theorem dX11_owedMore_21 : decode cX11_owedMore 21 = .ok (.iload_n 1, 1) := by decide +kernel
theorem dX11_owedMore_22 : decode cX11_owedMore 22 = .ok (.iload 4, 2) := by decide +kernel
theorem dX11_owedMore_24 : decode cX11_owedMore 24 = .ok (.invokestatic 335, 3) := by decide +kernel
theorem dX11_owedMore_27 : decode cX11_owedMore 27 = .ok (.ifCond .eq 26, 3) := by decide +kernel
theorem dX11_owedMore_30 : decode cX11_owedMore 30 = .ok (.iload_n 1, 1) := by decide +kernel
theorem dX11_owedMore_31 : decode cX11_owedMore 31 = .ok (.iload_n 3, 1) := by decide +kernel
theorem dX11_owedMore_32 : decode cX11_owedMore 32 = .ok (.invokestatic 335, 3) := by decide +kernel
theorem dX11_owedMore_35 : decode cX11_owedMore 35 = .ok (.ifCond .ne 18, 3) := by decide +kernel
theorem dX11_owedMore_38 : decode cX11_owedMore 38 = .ok (.aload_n 0, 1) := by decide +kernel
theorem dX11_owedMore_39 : decode cX11_owedMore 39 = .ok (.getfield 87, 3) := by decide +kernel
theorem dX11_owedMore_42 : decode cX11_owedMore 42 = .ok (.bipush 6, 2) := by decide +kernel
theorem dX11_owedMore_44 : decode cX11_owedMore 44 = .ok (.iload_n 3, 1) := by decide +kernel
theorem dX11_owedMore_45 : decode cX11_owedMore 45 = .ok (.imul, 1) := by decide +kernel
theorem dX11_owedMore_46 : decode cX11_owedMore 46 = .ok (.iload 4, 2) := by decide +kernel
theorem dX11_owedMore_48 : decode cX11_owedMore 48 = .ok (.iadd, 1) := by decide +kernel
theorem dX11_owedMore_49 : decode cX11_owedMore 49 = .ok (.iaload, 1) := by decide +kernel
theorem dX11_owedMore_50 : decode cX11_owedMore 50 = .ok (.goto 37, 3) := by decide +kernel
theorem dX11_owedMore_53 : decode cX11_owedMore 53 = .ok (.iload_n 1, 1) := by decide +kernel
theorem dX11_owedMore_54 : decode cX11_owedMore 54 = .ok (.iload_n 3, 1) := by decide +kernel
theorem dX11_owedMore_55 : decode cX11_owedMore 55 = .ok (.invokestatic 335, 3) := by decide +kernel
theorem dX11_owedMore_58 : decode cX11_owedMore 58 = .ok (.ifCond .eq 28, 3) := by decide +kernel
theorem dX11_owedMore_61 : decode cX11_owedMore 61 = .ok (.iload_n 1, 1) := by decide +kernel
theorem dX11_owedMore_62 : decode cX11_owedMore 62 = .ok (.iload 4, 2) := by decide +kernel
theorem dX11_owedMore_64 : decode cX11_owedMore 64 = .ok (.invokestatic 335, 3) := by decide +kernel
theorem dX11_owedMore_67 : decode cX11_owedMore 67 = .ok (.ifCond .ne 19, 3) := by decide +kernel
theorem dX11_owedMore_70 : decode cX11_owedMore 70 = .ok (.aload_n 0, 1) := by decide +kernel
theorem dX11_owedMore_71 : decode cX11_owedMore 71 = .ok (.getfield 87, 3) := by decide +kernel
theorem dX11_owedMore_74 : decode cX11_owedMore 74 = .ok (.bipush 6, 2) := by decide +kernel
theorem dX11_owedMore_76 : decode cX11_owedMore 76 = .ok (.iload_n 3, 1) := by decide +kernel
theorem dX11_owedMore_77 : decode cX11_owedMore 77 = .ok (.imul, 1) := by decide +kernel
theorem dX11_owedMore_78 : decode cX11_owedMore 78 = .ok (.iload 4, 2) := by decide +kernel
theorem dX11_owedMore_80 : decode cX11_owedMore 80 = .ok (.iadd, 1) := by decide +kernel
theorem dX11_owedMore_81 : decode cX11_owedMore 81 = .ok (.iaload, 1) := by decide +kernel
theorem dX11_owedMore_82 : decode cX11_owedMore 82 = .ok (.ineg, 1) := by decide +kernel
theorem dX11_owedMore_83 : decode cX11_owedMore 83 = .ok (.goto 4, 3) := by decide +kernel
theorem dX11_owedMore_86 : decode cX11_owedMore 86 = .ok (.iconst 0, 1) := by decide +kernel
theorem dX11_owedMore_87 : decode cX11_owedMore 87 = .ok (.iadd, 1) := by decide +kernel
theorem dX11_owedMore_88 : decode cX11_owedMore 88 = .ok (.istore_n 2, 1) := by decide +kernel
theorem dX11_owedMore_89 : decode cX11_owedMore 89 = .ok (.iinc 4 1, 3) := by decide +kernel
theorem dX11_owedMore_92 : decode cX11_owedMore 92 = .ok (.goto (-79), 3) := by decide +kernel
theorem dX11_owedMore_95 : decode cX11_owedMore 95 = .ok (.iinc 3 1, 3) := by decide +kernel
theorem dX11_owedMore_98 : decode cX11_owedMore 98 = .ok (.goto (-94), 3) := by decide +kernel
theorem dX11_owedMore_101 : decode cX11_owedMore 101 = .ok (.iload_n 2, 1) := by decide +kernel
theorem dX11_owedMore_102 : decode cX11_owedMore 102 = .ok (.ireturn, 1) := by decide +kernel
theorem dX11_settled_0 : decode cX11_settled 0 = .ok (.aload_n 0, 1) := by decide +kernel
theorem dX11_settled_1 : decode cX11_settled 1 = .ok (.invokevirtual 384, 3) := by decide +kernel
theorem dX11_settled_4 : decode cX11_settled 4 = .ok (.ifCond .ne 5, 3) := by decide +kernel
theorem dX11_settled_7 : decode cX11_settled 7 = .ok (.iconst (-1), 1) := by decide +kernel
theorem dX11_settled_8 : decode cX11_settled 8 = .ok (.ireturn, 1) := by decide +kernel
theorem dX11_settled_9 : decode cX11_settled 9 = .ok (.iconst 0, 1) := by decide +kernel
theorem dX11_settled_10 : decode cX11_settled 10 = .ok (.istore_n 1, 1) := by decide +kernel
theorem dX11_settled_11 : decode cX11_settled 11 = .ok (.iconst 0, 1) := by decide +kernel
theorem dX11_settled_12 : decode cX11_settled 12 = .ok (.istore_n 2, 1) := by decide +kernel
theorem dX11_settled_13 : decode cX11_settled 13 = .ok (.iload_n 2, 1) := by decide +kernel
theorem dX11_settled_14 : decode cX11_settled 14 = .ok (.bipush 6, 2) := by decide +kernel
theorem dX11_settled_16 : decode cX11_settled 16 = .ok (.if_icmp .ge 29, 3) := by decide +kernel
theorem dX11_settled_19 : decode cX11_settled 19 = .ok (.iload_n 1, 1) := by decide +kernel
theorem dX11_settled_20 : decode cX11_settled 20 = .ok (.aload_n 0, 1) := by decide +kernel
theorem dX11_settled_21 : decode cX11_settled 21 = .ok (.iconst 1, 1) := by decide +kernel
theorem dX11_settled_22 : decode cX11_settled 22 = .ok (.iload_n 2, 1) := by decide +kernel
theorem dX11_settled_23 : decode cX11_settled 23 = .ok (.ishl, 1) := by decide +kernel
theorem dX11_settled_24 : decode cX11_settled 24 = .ok (.invokevirtual 387, 3) := by decide +kernel
theorem dX11_settled_27 : decode cX11_settled 27 = .ok (.ifCond .ne 7, 3) := by decide +kernel
theorem dX11_settled_30 : decode cX11_settled 30 = .ok (.iconst 0, 1) := by decide +kernel
theorem dX11_settled_31 : decode cX11_settled 31 = .ok (.goto 6, 3) := by decide +kernel
theorem dX11_settled_34 : decode cX11_settled 34 = .ok (.iconst 1, 1) := by decide +kernel
theorem dX11_settled_35 : decode cX11_settled 35 = .ok (.iload_n 2, 1) := by decide +kernel
theorem dX11_settled_36 : decode cX11_settled 36 = .ok (.ishl, 1) := by decide +kernel
theorem dX11_settled_37 : decode cX11_settled 37 = .ok (.ior, 1) := by decide +kernel
theorem dX11_settled_38 : decode cX11_settled 38 = .ok (.istore_n 1, 1) := by decide +kernel
theorem dX11_settled_39 : decode cX11_settled 39 = .ok (.iinc 2 1, 3) := by decide +kernel
theorem dX11_settled_42 : decode cX11_settled 42 = .ok (.goto (-29), 3) := by decide +kernel
theorem dX11_settled_45 : decode cX11_settled 45 = .ok (.iconst 0, 1) := by decide +kernel
theorem dX11_settled_46 : decode cX11_settled 46 = .ok (.istore_n 2, 1) := by decide +kernel
theorem dX11_settled_47 : decode cX11_settled 47 = .ok (.iload_n 2, 1) := by decide +kernel
theorem dX11_settled_48 : decode cX11_settled 48 = .ok (.iload_n 1, 1) := by decide +kernel
theorem dX11_settled_49 : decode cX11_settled 49 = .ok (.if_icmp .gt 95, 3) := by decide +kernel
theorem dX11_settled_52 : decode cX11_settled 52 = .ok (.iload_n 2, 1) := by decide +kernel
theorem dX11_settled_53 : decode cX11_settled 53 = .ok (.iload_n 1, 1) := by decide +kernel
theorem dX11_settled_54 : decode cX11_settled 54 = .ok (.iconst (-1), 1) := by decide +kernel
theorem dX11_settled_55 : decode cX11_settled 55 = .ok (.ixor, 1) := by decide +kernel
theorem dX11_settled_56 : decode cX11_settled 56 = .ok (.iand, 1) := by decide +kernel
theorem dX11_settled_57 : decode cX11_settled 57 = .ok (.ifCond .eq 6, 3) := by decide +kernel
theorem dX11_settled_60 : decode cX11_settled 60 = .ok (.goto 78, 3) := by decide +kernel
theorem dX11_settled_63 : decode cX11_settled 63 = .ok (.aload_n 0, 1) := by decide +kernel
theorem dX11_settled_64 : decode cX11_settled 64 = .ok (.getfield 90, 3) := by decide +kernel
theorem dX11_settled_67 : decode cX11_settled 67 = .ok (.iload_n 2, 1) := by decide +kernel
theorem dX11_settled_68 : decode cX11_settled 68 = .ok (.iload_n 2, 1) := by decide +kernel
theorem dX11_settled_69 : decode cX11_settled 69 = .ok (.ifCond .ne 7, 3) := by decide +kernel
theorem dX11_settled_72 : decode cX11_settled 72 = .ok (.iconst 0, 1) := by decide +kernel
theorem dX11_settled_73 : decode cX11_settled 73 = .ok (.goto 4, 3) := by decide +kernel
theorem dX11_settled_76 : decode cX11_settled 76 = .ok (.iconst (-1), 1) := by decide +kernel
theorem dX11_settled_77 : decode cX11_settled 77 = .ok (.iastore, 1) := by decide +kernel
theorem dX11_settled_78 : decode cX11_settled 78 = .ok (.iload_n 2, 1) := by decide +kernel
theorem dX11_settled_79 : decode cX11_settled 79 = .ok (.istore_n 3, 1) := by decide +kernel
theorem dX11_settled_80 : decode cX11_settled 80 = .ok (.iload_n 3, 1) := by decide +kernel
theorem dX11_settled_81 : decode cX11_settled 81 = .ok (.ifCond .le 57, 3) := by decide +kernel
theorem dX11_settled_84 : decode cX11_settled 84 = .ok (.aload_n 0, 1) := by decide +kernel
theorem dX11_settled_85 : decode cX11_settled 85 = .ok (.iload_n 3, 1) := by decide +kernel
theorem dX11_settled_86 : decode cX11_settled 86 = .ok (.invokevirtual 387, 3) := by decide +kernel
theorem dX11_settled_89 : decode cX11_settled 89 = .ok (.ifCond .ne 40, 3) := by decide +kernel
theorem dX11_settled_92 : decode cX11_settled 92 = .ok (.aload_n 0, 1) := by decide +kernel
theorem dX11_settled_93 : decode cX11_settled 93 = .ok (.getfield 90, 3) := by decide +kernel
theorem dX11_settled_96 : decode cX11_settled 96 = .ok (.iload_n 2, 1) := by decide +kernel
theorem dX11_settled_97 : decode cX11_settled 97 = .ok (.iload_n 3, 1) := by decide +kernel
theorem dX11_settled_98 : decode cX11_settled 98 = .ok (.ixor, 1) := by decide +kernel
theorem dX11_settled_99 : decode cX11_settled 99 = .ok (.iaload, 1) := by decide +kernel
theorem dX11_settled_100 : decode cX11_settled 100 = .ok (.iconst (-1), 1) := by decide +kernel
theorem dX11_settled_101 : decode cX11_settled 101 = .ok (.if_icmp .eq 28, 3) := by decide +kernel
theorem dX11_settled_104 : decode cX11_settled 104 = .ok (.aload_n 0, 1) := by decide +kernel
theorem dX11_settled_105 : decode cX11_settled 105 = .ok (.getfield 90, 3) := by decide +kernel
theorem dX11_settled_108 : decode cX11_settled 108 = .ok (.iload_n 2, 1) := by decide +kernel
theorem dX11_settled_109 : decode cX11_settled 109 = .ok (.aload_n 0, 1) := by decide +kernel
theorem dX11_settled_110 : decode cX11_settled 110 = .ok (.getfield 90, 3) := by decide +kernel
theorem dX11_settled_113 : decode cX11_settled 113 = .ok (.iload_n 2, 1) := by decide +kernel
theorem dX11_settled_114 : decode cX11_settled 114 = .ok (.iaload, 1) := by decide +kernel
theorem dX11_settled_115 : decode cX11_settled 115 = .ok (.aload_n 0, 1) := by decide +kernel
theorem dX11_settled_116 : decode cX11_settled 116 = .ok (.getfield 90, 3) := by decide +kernel
theorem dX11_settled_119 : decode cX11_settled 119 = .ok (.iload_n 2, 1) := by decide +kernel
theorem dX11_settled_120 : decode cX11_settled 120 = .ok (.iload_n 3, 1) := by decide +kernel
theorem dX11_settled_121 : decode cX11_settled 121 = .ok (.ixor, 1) := by decide +kernel
theorem dX11_settled_122 : decode cX11_settled 122 = .ok (.iaload, 1) := by decide +kernel
theorem dX11_settled_123 : decode cX11_settled 123 = .ok (.iconst 1, 1) := by decide +kernel
theorem dX11_settled_124 : decode cX11_settled 124 = .ok (.iadd, 1) := by decide +kernel
theorem dX11_settled_125 : decode cX11_settled 125 = .ok (.invokestatic 390, 3) := by decide +kernel
theorem dX11_settled_128 : decode cX11_settled 128 = .ok (.iastore, 1) := by decide +kernel
theorem dX11_settled_129 : decode cX11_settled 129 = .ok (.iload_n 3, 1) := by decide +kernel
theorem dX11_settled_130 : decode cX11_settled 130 = .ok (.iconst 1, 1) := by decide +kernel
theorem dX11_settled_131 : decode cX11_settled 131 = .ok (.isub, 1) := by decide +kernel
theorem dX11_settled_132 : decode cX11_settled 132 = .ok (.iload_n 2, 1) := by decide +kernel
theorem dX11_settled_133 : decode cX11_settled 133 = .ok (.iand, 1) := by decide +kernel
theorem dX11_settled_134 : decode cX11_settled 134 = .ok (.istore_n 3, 1) := by decide +kernel
theorem dX11_settled_135 : decode cX11_settled 135 = .ok (.goto (-55), 3) := by decide +kernel
theorem dX11_settled_138 : decode cX11_settled 138 = .ok (.iinc 2 1, 3) := by decide +kernel
theorem dX11_settled_141 : decode cX11_settled 141 = .ok (.goto (-94), 3) := by decide +kernel
theorem dX11_settled_144 : decode cX11_settled 144 = .ok (.iload_n 1, 1) := by decide +kernel
theorem dX11_settled_145 : decode cX11_settled 145 = .ok (.invokestatic 125, 3) := by decide +kernel
theorem dX11_settled_148 : decode cX11_settled 148 = .ok (.aload_n 0, 1) := by decide +kernel
theorem dX11_settled_149 : decode cX11_settled 149 = .ok (.getfield 90, 3) := by decide +kernel
theorem dX11_settled_152 : decode cX11_settled 152 = .ok (.iload_n 1, 1) := by decide +kernel
theorem dX11_settled_153 : decode cX11_settled 153 = .ok (.iaload, 1) := by decide +kernel
theorem dX11_settled_154 : decode cX11_settled 154 = .ok (.isub, 1) := by decide +kernel
theorem dX11_settled_155 : decode cX11_settled 155 = .ok (.ireturn, 1) := by decide +kernel
theorem dX11_few_0 : decode cX11_few 0 = .ok (.iload_n 1, 1) := by decide +kernel
theorem dX11_few_1 : decode cX11_few 1 = .ok (.iconst 1, 1) := by decide +kernel
theorem dX11_few_2 : decode cX11_few 2 = .ok (.bipush 20, 2) := by decide +kernel
theorem dX11_few_4 : decode cX11_few 4 = .ok (.invokestatic 18, 3) := by decide +kernel
theorem dX11_few_7 : decode cX11_few 7 = .ok (.ifCond .eq 13, 3) := by decide +kernel
theorem dX11_few_10 : decode cX11_few 10 = .ok (.iload_n 2, 1) := by decide +kernel
theorem dX11_few_11 : decode cX11_few 11 = .ok (.iconst 0, 1) := by decide +kernel
theorem dX11_few_12 : decode cX11_few 12 = .ok (.bipush 99, 2) := by decide +kernel
theorem dX11_few_14 : decode cX11_few 14 = .ok (.invokestatic 18, 3) := by decide +kernel
theorem dX11_few_17 : decode cX11_few 17 = .ok (.ifCond .ne 7, 3) := by decide +kernel
theorem dX11_few_20 : decode cX11_few 20 = .ok (.ldc2_w 393, 3) := by decide +kernel
theorem dX11_few_23 : decode cX11_few 23 = .ok (.lreturn, 1) := by decide +kernel
theorem dX11_few_24 : decode cX11_few 24 = .ok (.iconst 0, 1) := by decide +kernel
theorem dX11_few_25 : decode cX11_few 25 = .ok (.istore_n 3, 1) := by decide +kernel
theorem dX11_few_26 : decode cX11_few 26 = .ok (.iload_n 3, 1) := by decide +kernel
theorem dX11_few_27 : decode cX11_few 27 = .ok (.bipush 20, 2) := by decide +kernel
theorem dX11_few_29 : decode cX11_few 29 = .ok (.if_icmp .gt 26, 3) := by decide +kernel
theorem dX11_few_32 : decode cX11_few 32 = .ok (.aload_n 0, 1) := by decide +kernel
theorem dX11_few_33 : decode cX11_few 33 = .ok (.getfield 93, 3) := by decide +kernel
theorem dX11_few_36 : decode cX11_few 36 = .ok (.iload_n 3, 1) := by decide +kernel
theorem dX11_few_37 : decode cX11_few 37 = .ok (.iload_n 3, 1) := by decide +kernel
theorem dX11_few_38 : decode cX11_few 38 = .ok (.ifCond .ne 9, 3) := by decide +kernel
theorem dX11_few_41 : decode cX11_few 41 = .ok (.ldc2_w 395, 3) := by decide +kernel
theorem dX11_few_44 : decode cX11_few 44 = .ok (.goto 4, 3) := by decide +kernel
theorem dX11_few_47 : decode cX11_few 47 = .ok (.lconst 0, 1) := by decide +kernel
theorem dX11_few_48 : decode cX11_few 48 = .ok (.lastore, 1) := by decide +kernel
theorem dX11_few_49 : decode cX11_few 49 = .ok (.iinc 3 1, 3) := by decide +kernel
theorem dX11_few_52 : decode cX11_few 52 = .ok (.goto (-26), 3) := by decide +kernel
theorem dX11_few_55 : decode cX11_few 55 = .ok (.iconst 0, 1) := by decide +kernel
theorem dX11_few_56 : decode cX11_few 56 = .ok (.istore_n 3, 1) := by decide +kernel
theorem dX11_few_57 : decode cX11_few 57 = .ok (.iload_n 3, 1) := by decide +kernel
theorem dX11_few_58 : decode cX11_few 58 = .ok (.iload_n 2, 1) := by decide +kernel
theorem dX11_few_59 : decode cX11_few 59 = .ok (.if_icmp .ge 87, 3) := by decide +kernel
theorem dX11_few_62 : decode cX11_few 62 = .ok (.iload_n 1, 1) := by decide +kernel
theorem dX11_few_63 : decode cX11_few 63 = .ok (.iconst 1, 1) := by decide +kernel
theorem dX11_few_64 : decode cX11_few 64 = .ok (.isub, 1) := by decide +kernel
theorem dX11_few_65 : decode cX11_few 65 = .ok (.istore 4, 2) := by decide +kernel
theorem dX11_few_67 : decode cX11_few 67 = .ok (.iload 4, 2) := by decide +kernel
theorem dX11_few_69 : decode cX11_few 69 = .ok (.ifCond .lt 71, 3) := by decide +kernel
theorem dX11_few_72 : decode cX11_few 72 = .ok (.aload_n 0, 1) := by decide +kernel
theorem dX11_few_73 : decode cX11_few 73 = .ok (.getfield 93, 3) := by decide +kernel
theorem dX11_few_76 : decode cX11_few 76 = .ok (.iload 4, 2) := by decide +kernel
theorem dX11_few_78 : decode cX11_few 78 = .ok (.iconst 1, 1) := by decide +kernel
theorem dX11_few_79 : decode cX11_few 79 = .ok (.iadd, 1) := by decide +kernel
theorem dX11_few_80 : decode cX11_few 80 = .ok (.dup2, 1) := by decide +kernel
theorem dX11_few_81 : decode cX11_few 81 = .ok (.laload, 1) := by decide +kernel
theorem dX11_few_82 : decode cX11_few 82 = .ok (.aload_n 0, 1) := by decide +kernel
theorem dX11_few_83 : decode cX11_few 83 = .ok (.getfield 93, 3) := by decide +kernel
theorem dX11_few_86 : decode cX11_few 86 = .ok (.iload 4, 2) := by decide +kernel
theorem dX11_few_88 : decode cX11_few 88 = .ok (.laload, 1) := by decide +kernel
theorem dX11_few_89 : decode cX11_few 89 = .ok (.aload_n 0, 1) := by decide +kernel
theorem dX11_few_90 : decode cX11_few 90 = .ok (.getfield 28, 3) := by decide +kernel
theorem dX11_few_93 : decode cX11_few 93 = .ok (.bipush 43, 2) := by decide +kernel
theorem dX11_few_95 : decode cX11_few 95 = .ok (.iaload, 1) := by decide +kernel
theorem dX11_few_96 : decode cX11_few 96 = .ok (.i2l, 1) := by decide +kernel
theorem dX11_few_97 : decode cX11_few 97 = .ok (.lmul, 1) := by decide +kernel
theorem dX11_few_98 : decode cX11_few 98 = .ok (.ldc2_w 397, 3) := by decide +kernel
theorem dX11_few_101 : decode cX11_few 101 = .ok (.ldiv, 1) := by decide +kernel
theorem dX11_few_102 : decode cX11_few 102 = .ok (.ladd, 1) := by decide +kernel
theorem dX11_few_103 : decode cX11_few 103 = .ok (.lastore, 1) := by decide +kernel
theorem dX11_few_104 : decode cX11_few 104 = .ok (.aload_n 0, 1) := by decide +kernel
theorem dX11_few_105 : decode cX11_few 105 = .ok (.getfield 93, 3) := by decide +kernel
theorem dX11_few_108 : decode cX11_few 108 = .ok (.iload 4, 2) := by decide +kernel
theorem dX11_few_110 : decode cX11_few 110 = .ok (.aload_n 0, 1) := by decide +kernel
theorem dX11_few_111 : decode cX11_few 111 = .ok (.getfield 93, 3) := by decide +kernel
theorem dX11_few_114 : decode cX11_few 114 = .ok (.iload 4, 2) := by decide +kernel
theorem dX11_few_116 : decode cX11_few 116 = .ok (.laload, 1) := by decide +kernel
theorem dX11_few_117 : decode cX11_few 117 = .ok (.bipush 10, 2) := by decide +kernel
theorem dX11_few_119 : decode cX11_few 119 = .ok (.aload_n 0, 1) := by decide +kernel
theorem dX11_few_120 : decode cX11_few 120 = .ok (.getfield 28, 3) := by decide +kernel
theorem dX11_few_123 : decode cX11_few 123 = .ok (.bipush 43, 2) := by decide +kernel
theorem dX11_few_125 : decode cX11_few 125 = .ok (.iaload, 1) := by decide +kernel
theorem dX11_few_126 : decode cX11_few 126 = .ok (.isub, 1) := by decide +kernel
theorem dX11_few_127 : decode cX11_few 127 = .ok (.i2l, 1) := by decide +kernel
theorem dX11_few_128 : decode cX11_few 128 = .ok (.lmul, 1) := by decide +kernel
theorem dX11_few_129 : decode cX11_few 129 = .ok (.ldc2_w 397, 3) := by decide +kernel
theorem dX11_few_132 : decode cX11_few 132 = .ok (.ldiv, 1) := by decide +kernel
theorem dX11_few_133 : decode cX11_few 133 = .ok (.lastore, 1) := by decide +kernel
theorem dX11_few_134 : decode cX11_few 134 = .ok (.iinc 4 (-1), 3) := by decide +kernel
theorem dX11_few_137 : decode cX11_few 137 = .ok (.goto (-70), 3) := by decide +kernel
theorem dX11_few_140 : decode cX11_few 140 = .ok (.iinc 3 1, 3) := by decide +kernel
theorem dX11_few_143 : decode cX11_few 143 = .ok (.goto (-86), 3) := by decide +kernel
theorem dX11_few_146 : decode cX11_few 146 = .ok (.lconst 0, 1) := by decide +kernel
theorem dX11_few_147 : decode cX11_few 147 = .ok (.lstore_n 3, 1) := by decide +kernel
theorem dX11_few_148 : decode cX11_few 148 = .ok (.iconst 0, 1) := by decide +kernel
theorem dX11_few_149 : decode cX11_few 149 = .ok (.istore 5, 2) := by decide +kernel
theorem dX11_few_151 : decode cX11_few 151 = .ok (.iload 5, 2) := by decide +kernel
theorem dX11_few_153 : decode cX11_few 153 = .ok (.iload_n 1, 1) := by decide +kernel
theorem dX11_few_154 : decode cX11_few 154 = .ok (.if_icmp .ge 19, 3) := by decide +kernel
theorem dX11_few_157 : decode cX11_few 157 = .ok (.lload_n 3, 1) := by decide +kernel
theorem dX11_few_158 : decode cX11_few 158 = .ok (.aload_n 0, 1) := by decide +kernel
theorem dX11_few_159 : decode cX11_few 159 = .ok (.getfield 93, 3) := by decide +kernel
theorem dX11_few_162 : decode cX11_few 162 = .ok (.iload 5, 2) := by decide +kernel
theorem dX11_few_164 : decode cX11_few 164 = .ok (.laload, 1) := by decide +kernel
theorem dX11_few_165 : decode cX11_few 165 = .ok (.ladd, 1) := by decide +kernel
theorem dX11_few_166 : decode cX11_few 166 = .ok (.lstore_n 3, 1) := by decide +kernel
theorem dX11_few_167 : decode cX11_few 167 = .ok (.iinc 5 1, 3) := by decide +kernel
theorem dX11_few_170 : decode cX11_few 170 = .ok (.goto (-19), 3) := by decide +kernel
theorem dX11_few_173 : decode cX11_few 173 = .ok (.lload_n 3, 1) := by decide +kernel
theorem dX11_few_174 : decode cX11_few 174 = .ok (.lreturn, 1) := by decide +kernel
theorem dX11_keeps_0 : decode cX11_keeps 0 = .ok (.bipush 26, 2) := by decide +kernel
theorem dX11_keeps_2 : decode cX11_keeps 2 = .ok (.istore_n 2, 1) := by decide +kernel
theorem dX11_keeps_3 : decode cX11_keeps 3 = .ok (.aload_n 0, 1) := by decide +kernel
theorem dX11_keeps_4 : decode cX11_keeps 4 = .ok (.getfield 11, 3) := by decide +kernel
theorem dX11_keeps_7 : decode cX11_keeps 7 = .ok (.bipush 16, 2) := by decide +kernel
theorem dX11_keeps_9 : decode cX11_keeps 9 = .ok (.if_icmp .ne 43, 3) := by decide +kernel
theorem dX11_keeps_12 : decode cX11_keeps 12 = .ok (.iconst 0, 1) := by decide +kernel
theorem dX11_keeps_13 : decode cX11_keeps 13 = .ok (.istore_n 3, 1) := by decide +kernel
theorem dX11_keeps_14 : decode cX11_keeps 14 = .ok (.iload_n 3, 1) := by decide +kernel
theorem dX11_keeps_15 : decode cX11_keeps 15 = .ok (.bipush 15, 2) := by decide +kernel
theorem dX11_keeps_17 : decode cX11_keeps 17 = .ok (.iload_n 2, 1) := by decide +kernel
theorem dX11_keeps_18 : decode cX11_keeps 18 = .ok (.imul, 1) := by decide +kernel
theorem dX11_keeps_19 : decode cX11_keeps 19 = .ok (.if_icmp .ge 23, 3) := by decide +kernel
theorem dX11_keeps_22 : decode cX11_keeps 22 = .ok (.aload_n 0, 1) := by decide +kernel
theorem dX11_keeps_23 : decode cX11_keeps 23 = .ok (.getfield 97, 3) := by decide +kernel
theorem dX11_keeps_26 : decode cX11_keeps 26 = .ok (.iload_n 3, 1) := by decide +kernel
theorem dX11_keeps_27 : decode cX11_keeps 27 = .ok (.aload_n 0, 1) := by decide +kernel
theorem dX11_keeps_28 : decode cX11_keeps 28 = .ok (.getfield 97, 3) := by decide +kernel
theorem dX11_keeps_31 : decode cX11_keeps 31 = .ok (.iload_n 3, 1) := by decide +kernel
theorem dX11_keeps_32 : decode cX11_keeps 32 = .ok (.iload_n 2, 1) := by decide +kernel
theorem dX11_keeps_33 : decode cX11_keeps 33 = .ok (.iadd, 1) := by decide +kernel
theorem dX11_keeps_34 : decode cX11_keeps 34 = .ok (.iaload, 1) := by decide +kernel
theorem dX11_keeps_35 : decode cX11_keeps 35 = .ok (.iastore, 1) := by decide +kernel
theorem dX11_keeps_36 : decode cX11_keeps 36 = .ok (.iinc 3 1, 3) := by decide +kernel
theorem dX11_keeps_39 : decode cX11_keeps 39 = .ok (.goto (-25), 3) := by decide +kernel
theorem dX11_keeps_42 : decode cX11_keeps 42 = .ok (.aload_n 0, 1) := by decide +kernel
theorem dX11_keeps_43 : decode cX11_keeps 43 = .ok (.dup, 1) := by decide +kernel
theorem dX11_keeps_44 : decode cX11_keeps 44 = .ok (.getfield 11, 3) := by decide +kernel
theorem dX11_keeps_47 : decode cX11_keeps 47 = .ok (.iconst 1, 1) := by decide +kernel
theorem dX11_keeps_48 : decode cX11_keeps 48 = .ok (.isub, 1) := by decide +kernel
theorem dX11_keeps_49 : decode cX11_keeps 49 = .ok (.putfield 11, 3) := by decide +kernel
theorem dX11_keeps_52 : decode cX11_keeps 52 = .ok (.iconst 0, 1) := by decide +kernel
theorem dX11_keeps_53 : decode cX11_keeps 53 = .ok (.istore_n 3, 1) := by decide +kernel
theorem dX11_keeps_54 : decode cX11_keeps 54 = .ok (.iload_n 3, 1) := by decide +kernel
theorem dX11_keeps_55 : decode cX11_keeps 55 = .ok (.bipush 25, 2) := by decide +kernel
theorem dX11_keeps_57 : decode cX11_keeps 57 = .ok (.if_icmp .ge 28, 3) := by decide +kernel
theorem dX11_keeps_60 : decode cX11_keeps 60 = .ok (.aload_n 0, 1) := by decide +kernel
theorem dX11_keeps_61 : decode cX11_keeps 61 = .ok (.getfield 97, 3) := by decide +kernel
theorem dX11_keeps_64 : decode cX11_keeps 64 = .ok (.iload_n 2, 1) := by decide +kernel
theorem dX11_keeps_65 : decode cX11_keeps 65 = .ok (.aload_n 0, 1) := by decide +kernel
theorem dX11_keeps_66 : decode cX11_keeps 66 = .ok (.getfield 11, 3) := by decide +kernel
theorem dX11_keeps_69 : decode cX11_keeps 69 = .ok (.imul, 1) := by decide +kernel
theorem dX11_keeps_70 : decode cX11_keeps 70 = .ok (.iload_n 3, 1) := by decide +kernel
theorem dX11_keeps_71 : decode cX11_keeps 71 = .ok (.iadd, 1) := by decide +kernel
theorem dX11_keeps_72 : decode cX11_keeps 72 = .ok (.aload_n 0, 1) := by decide +kernel
theorem dX11_keeps_73 : decode cX11_keeps 73 = .ok (.getfield 28, 3) := by decide +kernel
theorem dX11_keeps_76 : decode cX11_keeps 76 = .ok (.iload_n 3, 1) := by decide +kernel
theorem dX11_keeps_77 : decode cX11_keeps 77 = .ok (.iaload, 1) := by decide +kernel
theorem dX11_keeps_78 : decode cX11_keeps 78 = .ok (.iastore, 1) := by decide +kernel
theorem dX11_keeps_79 : decode cX11_keeps 79 = .ok (.iinc 3 1, 3) := by decide +kernel
theorem dX11_keeps_82 : decode cX11_keeps 82 = .ok (.goto (-28), 3) := by decide +kernel
theorem dX11_keeps_85 : decode cX11_keeps 85 = .ok (.aload_n 0, 1) := by decide +kernel
theorem dX11_keeps_86 : decode cX11_keeps 86 = .ok (.getfield 97, 3) := by decide +kernel
theorem dX11_keeps_89 : decode cX11_keeps 89 = .ok (.iload_n 2, 1) := by decide +kernel
theorem dX11_keeps_90 : decode cX11_keeps 90 = .ok (.aload_n 0, 1) := by decide +kernel
theorem dX11_keeps_91 : decode cX11_keeps 91 = .ok (.getfield 11, 3) := by decide +kernel
theorem dX11_keeps_94 : decode cX11_keeps 94 = .ok (.imul, 1) := by decide +kernel
theorem dX11_keeps_95 : decode cX11_keeps 95 = .ok (.bipush 25, 2) := by decide +kernel
theorem dX11_keeps_97 : decode cX11_keeps 97 = .ok (.iadd, 1) := by decide +kernel
theorem dX11_keeps_98 : decode cX11_keeps 98 = .ok (.iload_n 1, 1) := by decide +kernel
theorem dX11_keeps_99 : decode cX11_keeps 99 = .ok (.iastore, 1) := by decide +kernel
theorem dX11_keeps_100 : decode cX11_keeps 100 = .ok (.aload_n 0, 1) := by decide +kernel
theorem dX11_keeps_101 : decode cX11_keeps 101 = .ok (.dup, 1) := by decide +kernel
theorem dX11_keeps_102 : decode cX11_keeps 102 = .ok (.getfield 11, 3) := by decide +kernel
theorem dX11_keeps_105 : decode cX11_keeps 105 = .ok (.iconst 1, 1) := by decide +kernel
theorem dX11_keeps_106 : decode cX11_keeps 106 = .ok (.iadd, 1) := by decide +kernel
theorem dX11_keeps_107 : decode cX11_keeps 107 = .ok (.putfield 11, 3) := by decide +kernel
theorem dX11_keeps_110 : decode cX11_keeps 110 = .ok (.return_, 1) := by decide +kernel
theorem dX11_undo_0 : decode cX11_undo 0 = .ok (.aload_n 0, 1) := by decide +kernel
theorem dX11_undo_1 : decode cX11_undo 1 = .ok (.getfield 11, 3) := by decide +kernel
theorem dX11_undo_4 : decode cX11_undo 4 = .ok (.ifCond .ne 10, 3) := by decide +kernel
theorem dX11_undo_7 : decode cX11_undo 7 = .ok (.aload_n 0, 1) := by decide +kernel
theorem dX11_undo_8 : decode cX11_undo 8 = .ok (.bipush (-3), 2) := by decide +kernel
theorem dX11_undo_10 : decode cX11_undo 10 = .ok (.invokevirtual 112, 3) := by decide +kernel
theorem dX11_undo_13 : decode cX11_undo 13 = .ok (.ireturn, 1) := by decide +kernel
theorem dX11_undo_14 : decode cX11_undo 14 = .ok (.aload_n 0, 1) := by decide +kernel
theorem dX11_undo_15 : decode cX11_undo 15 = .ok (.dup, 1) := by decide +kernel
theorem dX11_undo_16 : decode cX11_undo 16 = .ok (.getfield 11, 3) := by decide +kernel
theorem dX11_undo_19 : decode cX11_undo 19 = .ok (.iconst 1, 1) := by decide +kernel
theorem dX11_undo_20 : decode cX11_undo 20 = .ok (.isub, 1) := by decide +kernel
theorem dX11_undo_21 : decode cX11_undo 21 = .ok (.putfield 11, 3) := by decide +kernel
theorem dX11_undo_24 : decode cX11_undo 24 = .ok (.bipush 26, 2) := by decide +kernel
theorem dX11_undo_26 : decode cX11_undo 26 = .ok (.aload_n 0, 1) := by decide +kernel
theorem dX11_undo_27 : decode cX11_undo 27 = .ok (.getfield 11, 3) := by decide +kernel
theorem dX11_undo_30 : decode cX11_undo 30 = .ok (.imul, 1) := by decide +kernel
theorem dX11_undo_31 : decode cX11_undo 31 = .ok (.istore_n 1, 1) := by decide +kernel
theorem dX11_undo_32 : decode cX11_undo 32 = .ok (.iconst 0, 1) := by decide +kernel
theorem dX11_undo_33 : decode cX11_undo 33 = .ok (.istore_n 2, 1) := by decide +kernel
theorem dX11_undo_34 : decode cX11_undo 34 = .ok (.iload_n 2, 1) := by decide +kernel
theorem dX11_undo_35 : decode cX11_undo 35 = .ok (.bipush 25, 2) := by decide +kernel
theorem dX11_undo_37 : decode cX11_undo 37 = .ok (.if_icmp .ge 23, 3) := by decide +kernel
theorem dX11_undo_40 : decode cX11_undo 40 = .ok (.aload_n 0, 1) := by decide +kernel
theorem dX11_undo_41 : decode cX11_undo 41 = .ok (.getfield 28, 3) := by decide +kernel
theorem dX11_undo_44 : decode cX11_undo 44 = .ok (.iload_n 2, 1) := by decide +kernel
theorem dX11_undo_45 : decode cX11_undo 45 = .ok (.aload_n 0, 1) := by decide +kernel
theorem dX11_undo_46 : decode cX11_undo 46 = .ok (.getfield 97, 3) := by decide +kernel
theorem dX11_undo_49 : decode cX11_undo 49 = .ok (.iload_n 1, 1) := by decide +kernel
theorem dX11_undo_50 : decode cX11_undo 50 = .ok (.iload_n 2, 1) := by decide +kernel
theorem dX11_undo_51 : decode cX11_undo 51 = .ok (.iadd, 1) := by decide +kernel
theorem dX11_undo_52 : decode cX11_undo 52 = .ok (.iaload, 1) := by decide +kernel
theorem dX11_undo_53 : decode cX11_undo 53 = .ok (.iastore, 1) := by decide +kernel
theorem dX11_undo_54 : decode cX11_undo 54 = .ok (.iinc 2 1, 3) := by decide +kernel
theorem dX11_undo_57 : decode cX11_undo 57 = .ok (.goto (-23), 3) := by decide +kernel
theorem dX11_undo_60 : decode cX11_undo 60 = .ok (.aload_n 0, 1) := by decide +kernel
theorem dX11_undo_61 : decode cX11_undo 61 = .ok (.aload_n 0, 1) := by decide +kernel
theorem dX11_undo_62 : decode cX11_undo 62 = .ok (.getfield 97, 3) := by decide +kernel
theorem dX11_undo_65 : decode cX11_undo 65 = .ok (.iload_n 1, 1) := by decide +kernel
theorem dX11_undo_66 : decode cX11_undo 66 = .ok (.bipush 25, 2) := by decide +kernel
theorem dX11_undo_68 : decode cX11_undo 68 = .ok (.iadd, 1) := by decide +kernel
theorem dX11_undo_69 : decode cX11_undo 69 = .ok (.iaload, 1) := by decide +kernel
theorem dX11_undo_70 : decode cX11_undo 70 = .ok (.invokevirtual 14, 3) := by decide +kernel
theorem dX11_undo_73 : decode cX11_undo 73 = .ok (.ireturn, 1) := by decide +kernel
theorem dX11_goodOr_0 : decode cX11_goodOr 0 = .ok (.iload_n 1, 1) := by decide +kernel
theorem dX11_goodOr_1 : decode cX11_goodOr 1 = .ok (.ifCond .ge 11, 3) := by decide +kernel
theorem dX11_goodOr_4 : decode cX11_goodOr 4 = .ok (.aload_n 0, 1) := by decide +kernel
theorem dX11_goodOr_5 : decode cX11_goodOr 5 = .ok (.iload_n 1, 1) := by decide +kernel
theorem dX11_goodOr_6 : decode cX11_goodOr 6 = .ok (.invokevirtual 112, 3) := by decide +kernel
theorem dX11_goodOr_9 : decode cX11_goodOr 9 = .ok (.goto 8, 3) := by decide +kernel
theorem dX11_goodOr_12 : decode cX11_goodOr 12 = .ok (.aload_n 0, 1) := by decide +kernel
theorem dX11_goodOr_13 : decode cX11_goodOr 13 = .ok (.iload_n 1, 1) := by decide +kernel
theorem dX11_goodOr_14 : decode cX11_goodOr 14 = .ok (.invokevirtual 14, 3) := by decide +kernel
theorem dX11_goodOr_17 : decode cX11_goodOr 17 = .ok (.ireturn, 1) := by decide +kernel
theorem dX11_notesKept_0 : decode cX11_notesKept 0 = .ok (.iload_n 1, 1) := by decide +kernel
theorem dX11_notesKept_1 : decode cX11_notesKept 1 = .ok (.invokestatic 135, 3) := by decide +kernel
theorem dX11_notesKept_4 : decode cX11_notesKept 4 = .ok (.ifCond .eq 10, 3) := by decide +kernel
theorem dX11_notesKept_7 : decode cX11_notesKept 7 = .ok (.iload_n 2, 1) := by decide +kernel
theorem dX11_notesKept_8 : decode cX11_notesKept 8 = .ok (.invokestatic 138, 3) := by decide +kernel
theorem dX11_notesKept_11 : decode cX11_notesKept 11 = .ok (.ifCond .ne 5, 3) := by decide +kernel
theorem dX11_notesKept_14 : decode cX11_notesKept 14 = .ok (.iconst (-1), 1) := by decide +kernel
theorem dX11_notesKept_15 : decode cX11_notesKept 15 = .ok (.ireturn, 1) := by decide +kernel
theorem dX11_notesKept_16 : decode cX11_notesKept 16 = .ok (.aload_n 0, 1) := by decide +kernel
theorem dX11_notesKept_17 : decode cX11_notesKept 17 = .ok (.iconst 0, 1) := by decide +kernel
theorem dX11_notesKept_18 : decode cX11_notesKept 18 = .ok (.invokevirtual 399, 3) := by decide +kernel
theorem dX11_notesKept_21 : decode cX11_notesKept 21 = .ok (.aload_n 0, 1) := by decide +kernel
theorem dX11_notesKept_22 : decode cX11_notesKept 22 = .ok (.getfield 28, 3) := by decide +kernel
theorem dX11_notesKept_25 : decode cX11_notesKept 25 = .ok (.bipush 8, 2) := by decide +kernel
theorem dX11_notesKept_27 : decode cX11_notesKept 27 = .ok (.iload_n 2, 1) := by decide +kernel
theorem dX11_notesKept_28 : decode cX11_notesKept 28 = .ok (.iadd, 1) := by decide +kernel
theorem dX11_notesKept_29 : decode cX11_notesKept 29 = .ok (.dup2, 1) := by decide +kernel
theorem dX11_notesKept_30 : decode cX11_notesKept 30 = .ok (.iaload, 1) := by decide +kernel
theorem dX11_notesKept_31 : decode cX11_notesKept 31 = .ok (.iconst 1, 1) := by decide +kernel
theorem dX11_notesKept_32 : decode cX11_notesKept 32 = .ok (.iload_n 1, 1) := by decide +kernel
theorem dX11_notesKept_33 : decode cX11_notesKept 33 = .ok (.ishl, 1) := by decide +kernel
theorem dX11_notesKept_34 : decode cX11_notesKept 34 = .ok (.ixor, 1) := by decide +kernel
theorem dX11_notesKept_35 : decode cX11_notesKept 35 = .ok (.iastore, 1) := by decide +kernel
theorem dX11_notesKept_36 : decode cX11_notesKept 36 = .ok (.aload_n 0, 1) := by decide +kernel
theorem dX11_notesKept_37 : decode cX11_notesKept 37 = .ok (.iload_n 2, 1) := by decide +kernel
theorem dX11_notesKept_38 : decode cX11_notesKept 38 = .ok (.invokevirtual 122, 3) := by decide +kernel
theorem dX11_notesKept_41 : decode cX11_notesKept 41 = .ok (.ireturn, 1) := by decide +kernel
theorem dX11_givesKept_0 : decode cX11_givesKept 0 = .ok (.iload_n 1, 1) := by decide +kernel
theorem dX11_givesKept_1 : decode cX11_givesKept 1 = .ok (.invokestatic 135, 3) := by decide +kernel
theorem dX11_givesKept_4 : decode cX11_givesKept 4 = .ok (.ifCond .ne 5, 3) := by decide +kernel
theorem dX11_givesKept_7 : decode cX11_givesKept 7 = .ok (.iconst (-1), 1) := by decide +kernel
theorem dX11_givesKept_8 : decode cX11_givesKept 8 = .ok (.ireturn, 1) := by decide +kernel
theorem dX11_givesKept_9 : decode cX11_givesKept 9 = .ok (.iload_n 2, 1) := by decide +kernel
theorem dX11_givesKept_10 : decode cX11_givesKept 10 = .ok (.iconst (-1), 1) := by decide +kernel
theorem dX11_givesKept_11 : decode cX11_givesKept 11 = .ok (.if_icmp .eq 14, 3) := by decide +kernel
theorem dX11_givesKept_14 : decode cX11_givesKept 14 = .ok (.aload_n 0, 1) := by decide +kernel
theorem dX11_givesKept_15 : decode cX11_givesKept 15 = .ok (.iload_n 2, 1) := by decide +kernel
theorem dX11_givesKept_16 : decode cX11_givesKept 16 = .ok (.invokevirtual 128, 3) := by decide +kernel
theorem dX11_givesKept_19 : decode cX11_givesKept 19 = .ok (.ifCond .ne 6, 3) := by decide +kernel
theorem dX11_givesKept_22 : decode cX11_givesKept 22 = .ok (.bipush (-2), 2) := by decide +kernel
theorem dX11_givesKept_24 : decode cX11_givesKept 24 = .ok (.ireturn, 1) := by decide +kernel
theorem dX11_givesKept_25 : decode cX11_givesKept 25 = .ok (.aload_n 0, 1) := by decide +kernel
theorem dX11_givesKept_26 : decode cX11_givesKept 26 = .ok (.getfield 28, 3) := by decide +kernel
theorem dX11_givesKept_29 : decode cX11_givesKept 29 = .ok (.iconst 0, 1) := by decide +kernel
theorem dX11_givesKept_30 : decode cX11_givesKept 30 = .ok (.iload_n 1, 1) := by decide +kernel
theorem dX11_givesKept_31 : decode cX11_givesKept 31 = .ok (.iadd, 1) := by decide +kernel
theorem dX11_givesKept_32 : decode cX11_givesKept 32 = .ok (.iaload, 1) := by decide +kernel
theorem dX11_givesKept_33 : decode cX11_givesKept 33 = .ok (.istore_n 3, 1) := by decide +kernel
theorem dX11_givesKept_34 : decode cX11_givesKept 34 = .ok (.iload_n 3, 1) := by decide +kernel
theorem dX11_givesKept_35 : decode cX11_givesKept 35 = .ok (.iload_n 2, 1) := by decide +kernel
theorem dX11_givesKept_36 : decode cX11_givesKept 36 = .ok (.if_icmp .ne 6, 3) := by decide +kernel
theorem dX11_givesKept_39 : decode cX11_givesKept 39 = .ok (.bipush (-3), 2) := by decide +kernel
theorem dX11_givesKept_41 : decode cX11_givesKept 41 = .ok (.ireturn, 1) := by decide +kernel
theorem dX11_givesKept_42 : decode cX11_givesKept 42 = .ok (.aload_n 0, 1) := by decide +kernel
theorem dX11_givesKept_43 : decode cX11_givesKept 43 = .ok (.iconst 1, 1) := by decide +kernel
theorem dX11_givesKept_44 : decode cX11_givesKept 44 = .ok (.invokevirtual 399, 3) := by decide +kernel
theorem dX11_givesKept_47 : decode cX11_givesKept 47 = .ok (.aload_n 0, 1) := by decide +kernel
theorem dX11_givesKept_48 : decode cX11_givesKept 48 = .ok (.getfield 28, 3) := by decide +kernel
theorem dX11_givesKept_51 : decode cX11_givesKept 51 = .ok (.iconst 0, 1) := by decide +kernel
theorem dX11_givesKept_52 : decode cX11_givesKept 52 = .ok (.iload_n 1, 1) := by decide +kernel
theorem dX11_givesKept_53 : decode cX11_givesKept 53 = .ok (.iadd, 1) := by decide +kernel
theorem dX11_givesKept_54 : decode cX11_givesKept 54 = .ok (.iload_n 2, 1) := by decide +kernel
theorem dX11_givesKept_55 : decode cX11_givesKept 55 = .ok (.iastore, 1) := by decide +kernel
theorem dX11_givesKept_56 : decode cX11_givesKept 56 = .ok (.iload_n 3, 1) := by decide +kernel
theorem dX11_givesKept_57 : decode cX11_givesKept 57 = .ok (.iconst (-1), 1) := by decide +kernel
theorem dX11_givesKept_58 : decode cX11_givesKept 58 = .ok (.if_icmp .ne 8, 3) := by decide +kernel
theorem dX11_givesKept_61 : decode cX11_givesKept 61 = .ok (.bipush 6, 2) := by decide +kernel
theorem dX11_givesKept_63 : decode cX11_givesKept 63 = .ok (.goto 4, 3) := by decide +kernel
theorem dX11_givesKept_66 : decode cX11_givesKept 66 = .ok (.iload_n 3, 1) := by decide +kernel
theorem dX11_givesKept_67 : decode cX11_givesKept 67 = .ok (.ireturn, 1) := by decide +kernel
theorem dX11_shiftsKept_0 : decode cX11_shiftsKept 0 = .ok (.iload_n 1, 1) := by decide +kernel
theorem dX11_shiftsKept_1 : decode cX11_shiftsKept 1 = .ok (.ifCond .eq 14, 3) := by decide +kernel
theorem dX11_shiftsKept_4 : decode cX11_shiftsKept 4 = .ok (.iload_n 1, 1) := by decide +kernel
theorem dX11_shiftsKept_5 : decode cX11_shiftsKept 5 = .ok (.bipush (-7), 2) := by decide +kernel
theorem dX11_shiftsKept_7 : decode cX11_shiftsKept 7 = .ok (.bipush 7, 2) := by decide +kernel
theorem dX11_shiftsKept_9 : decode cX11_shiftsKept 9 = .ok (.invokestatic 18, 3) := by decide +kernel
theorem dX11_shiftsKept_12 : decode cX11_shiftsKept 12 = .ok (.ifCond .ne 5, 3) := by decide +kernel
theorem dX11_shiftsKept_15 : decode cX11_shiftsKept 15 = .ok (.iconst (-1), 1) := by decide +kernel
theorem dX11_shiftsKept_16 : decode cX11_shiftsKept 16 = .ok (.ireturn, 1) := by decide +kernel
theorem dX11_shiftsKept_17 : decode cX11_shiftsKept 17 = .ok (.iconst 0, 1) := by decide +kernel
theorem dX11_shiftsKept_18 : decode cX11_shiftsKept 18 = .ok (.istore_n 2, 1) := by decide +kernel
theorem dX11_shiftsKept_19 : decode cX11_shiftsKept 19 = .ok (.iload_n 2, 1) := by decide +kernel
theorem dX11_shiftsKept_20 : decode cX11_shiftsKept 20 = .ok (.bipush 16, 2) := by decide +kernel
theorem dX11_shiftsKept_22 : decode cX11_shiftsKept 22 = .ok (.if_icmp .ge 25, 3) := by decide +kernel
theorem dX11_shiftsKept_25 : decode cX11_shiftsKept 25 = .ok (.aload_n 0, 1) := by decide +kernel
theorem dX11_shiftsKept_26 : decode cX11_shiftsKept 26 = .ok (.iload_n 2, 1) := by decide +kernel
theorem dX11_shiftsKept_27 : decode cX11_shiftsKept 27 = .ok (.invokevirtual 122, 3) := by decide +kernel
theorem dX11_shiftsKept_30 : decode cX11_shiftsKept 30 = .ok (.iload_n 1, 1) := by decide +kernel
theorem dX11_shiftsKept_31 : decode cX11_shiftsKept 31 = .ok (.invokestatic 360, 3) := by decide +kernel
theorem dX11_shiftsKept_34 : decode cX11_shiftsKept 34 = .ok (.iconst (-1), 1) := by decide +kernel
theorem dX11_shiftsKept_35 : decode cX11_shiftsKept 35 = .ok (.if_icmp .ne 6, 3) := by decide +kernel
theorem dX11_shiftsKept_38 : decode cX11_shiftsKept 38 = .ok (.bipush (-3), 2) := by decide +kernel
theorem dX11_shiftsKept_40 : decode cX11_shiftsKept 40 = .ok (.ireturn, 1) := by decide +kernel
theorem dX11_shiftsKept_41 : decode cX11_shiftsKept 41 = .ok (.iinc 2 1, 3) := by decide +kernel
theorem dX11_shiftsKept_44 : decode cX11_shiftsKept 44 = .ok (.goto (-25), 3) := by decide +kernel
theorem dX11_shiftsKept_47 : decode cX11_shiftsKept 47 = .ok (.aload_n 0, 1) := by decide +kernel
theorem dX11_shiftsKept_48 : decode cX11_shiftsKept 48 = .ok (.iconst 2, 1) := by decide +kernel
theorem dX11_shiftsKept_49 : decode cX11_shiftsKept 49 = .ok (.invokevirtual 399, 3) := by decide +kernel
theorem dX11_shiftsKept_52 : decode cX11_shiftsKept 52 = .ok (.iconst 0, 1) := by decide +kernel
theorem dX11_shiftsKept_53 : decode cX11_shiftsKept 53 = .ok (.istore_n 2, 1) := by decide +kernel
theorem dX11_shiftsKept_54 : decode cX11_shiftsKept 54 = .ok (.iload_n 2, 1) := by decide +kernel
theorem dX11_shiftsKept_55 : decode cX11_shiftsKept 55 = .ok (.bipush 16, 2) := by decide +kernel
theorem dX11_shiftsKept_57 : decode cX11_shiftsKept 57 = .ok (.if_icmp .ge 27, 3) := by decide +kernel
theorem dX11_shiftsKept_60 : decode cX11_shiftsKept 60 = .ok (.aload_n 0, 1) := by decide +kernel
theorem dX11_shiftsKept_61 : decode cX11_shiftsKept 61 = .ok (.getfield 28, 3) := by decide +kernel
theorem dX11_shiftsKept_64 : decode cX11_shiftsKept 64 = .ok (.bipush 8, 2) := by decide +kernel
theorem dX11_shiftsKept_66 : decode cX11_shiftsKept 66 = .ok (.iload_n 2, 1) := by decide +kernel
theorem dX11_shiftsKept_67 : decode cX11_shiftsKept 67 = .ok (.iadd, 1) := by decide +kernel
theorem dX11_shiftsKept_68 : decode cX11_shiftsKept 68 = .ok (.aload_n 0, 1) := by decide +kernel
theorem dX11_shiftsKept_69 : decode cX11_shiftsKept 69 = .ok (.iload_n 2, 1) := by decide +kernel
theorem dX11_shiftsKept_70 : decode cX11_shiftsKept 70 = .ok (.invokevirtual 122, 3) := by decide +kernel
theorem dX11_shiftsKept_73 : decode cX11_shiftsKept 73 = .ok (.iload_n 1, 1) := by decide +kernel
theorem dX11_shiftsKept_74 : decode cX11_shiftsKept 74 = .ok (.invokestatic 360, 3) := by decide +kernel
theorem dX11_shiftsKept_77 : decode cX11_shiftsKept 77 = .ok (.iastore, 1) := by decide +kernel
theorem dX11_shiftsKept_78 : decode cX11_shiftsKept 78 = .ok (.iinc 2 1, 3) := by decide +kernel
theorem dX11_shiftsKept_81 : decode cX11_shiftsKept 81 = .ok (.goto (-27), 3) := by decide +kernel
theorem dX11_shiftsKept_84 : decode cX11_shiftsKept 84 = .ok (.aload_n 0, 1) := by decide +kernel
theorem dX11_shiftsKept_85 : decode cX11_shiftsKept 85 = .ok (.invokevirtual 310, 3) := by decide +kernel
theorem dX11_shiftsKept_88 : decode cX11_shiftsKept 88 = .ok (.ireturn, 1) := by decide +kernel
theorem dX11_passesKept_0 : decode cX11_passesKept 0 = .ok (.aload_n 0, 1) := by decide +kernel
theorem dX11_passesKept_1 : decode cX11_passesKept 1 = .ok (.getfield 28, 3) := by decide +kernel
theorem dX11_passesKept_4 : decode cX11_passesKept 4 = .ok (.bipush 24, 2) := by decide +kernel
theorem dX11_passesKept_6 : decode cX11_passesKept 6 = .ok (.iaload, 1) := by decide +kernel
theorem dX11_passesKept_7 : decode cX11_passesKept 7 = .ok (.sipush 999, 3) := by decide +kernel
theorem dX11_passesKept_10 : decode cX11_passesKept 10 = .ok (.if_icmp .ne 6, 3) := by decide +kernel
theorem dX11_passesKept_13 : decode cX11_passesKept 13 = .ok (.bipush (-3), 2) := by decide +kernel
theorem dX11_passesKept_15 : decode cX11_passesKept 15 = .ok (.ireturn, 1) := by decide +kernel
theorem dX11_passesKept_16 : decode cX11_passesKept 16 = .ok (.aload_n 0, 1) := by decide +kernel
theorem dX11_passesKept_17 : decode cX11_passesKept 17 = .ok (.iconst 3, 1) := by decide +kernel
theorem dX11_passesKept_18 : decode cX11_passesKept 18 = .ok (.invokevirtual 399, 3) := by decide +kernel
theorem dX11_passesKept_21 : decode cX11_passesKept 21 = .ok (.aload_n 0, 1) := by decide +kernel
theorem dX11_passesKept_22 : decode cX11_passesKept 22 = .ok (.getfield 28, 3) := by decide +kernel
theorem dX11_passesKept_25 : decode cX11_passesKept 25 = .ok (.bipush 24, 2) := by decide +kernel
theorem dX11_passesKept_27 : decode cX11_passesKept 27 = .ok (.dup2, 1) := by decide +kernel
theorem dX11_passesKept_28 : decode cX11_passesKept 28 = .ok (.iaload, 1) := by decide +kernel
theorem dX11_passesKept_29 : decode cX11_passesKept 29 = .ok (.iconst 1, 1) := by decide +kernel
theorem dX11_passesKept_30 : decode cX11_passesKept 30 = .ok (.iadd, 1) := by decide +kernel
theorem dX11_passesKept_31 : decode cX11_passesKept 31 = .ok (.iastore, 1) := by decide +kernel
theorem dX11_passesKept_32 : decode cX11_passesKept 32 = .ok (.aload_n 0, 1) := by decide +kernel
theorem dX11_passesKept_33 : decode cX11_passesKept 33 = .ok (.getfield 28, 3) := by decide +kernel
theorem dX11_passesKept_36 : decode cX11_passesKept 36 = .ok (.bipush 24, 2) := by decide +kernel
theorem dX11_passesKept_38 : decode cX11_passesKept 38 = .ok (.iaload, 1) := by decide +kernel
theorem dX11_passesKept_39 : decode cX11_passesKept 39 = .ok (.ireturn, 1) := by decide +kernel
theorem dX11_note_0 : decode cX11_note 0 = .ok (.aload_n 0, 1) := by decide +kernel
theorem dX11_note_1 : decode cX11_note 1 = .ok (.aload_n 0, 1) := by decide +kernel
theorem dX11_note_2 : decode cX11_note 2 = .ok (.iload_n 1, 1) := by decide +kernel
theorem dX11_note_3 : decode cX11_note 3 = .ok (.iload_n 2, 1) := by decide +kernel
theorem dX11_note_4 : decode cX11_note 4 = .ok (.invokevirtual 402, 3) := by decide +kernel
theorem dX11_note_7 : decode cX11_note 7 = .ok (.invokevirtual 405, 3) := by decide +kernel
theorem dX11_note_10 : decode cX11_note 10 = .ok (.ireturn, 1) := by decide +kernel
theorem dX11_give_0 : decode cX11_give 0 = .ok (.aload_n 0, 1) := by decide +kernel
theorem dX11_give_1 : decode cX11_give 1 = .ok (.aload_n 0, 1) := by decide +kernel
theorem dX11_give_2 : decode cX11_give 2 = .ok (.iload_n 1, 1) := by decide +kernel
theorem dX11_give_3 : decode cX11_give 3 = .ok (.iload_n 2, 1) := by decide +kernel
theorem dX11_give_4 : decode cX11_give 4 = .ok (.invokevirtual 408, 3) := by decide +kernel
theorem dX11_give_7 : decode cX11_give 7 = .ok (.invokevirtual 405, 3) := by decide +kernel
theorem dX11_give_10 : decode cX11_give 10 = .ok (.ireturn, 1) := by decide +kernel
theorem dX11_shift_0 : decode cX11_shift 0 = .ok (.aload_n 0, 1) := by decide +kernel
theorem dX11_shift_1 : decode cX11_shift 1 = .ok (.aload_n 0, 1) := by decide +kernel
theorem dX11_shift_2 : decode cX11_shift 2 = .ok (.iload_n 1, 1) := by decide +kernel
theorem dX11_shift_3 : decode cX11_shift 3 = .ok (.invokevirtual 411, 3) := by decide +kernel
theorem dX11_shift_6 : decode cX11_shift 6 = .ok (.invokevirtual 405, 3) := by decide +kernel
theorem dX11_shift_9 : decode cX11_shift 9 = .ok (.ireturn, 1) := by decide +kernel
theorem dX11_pass_0 : decode cX11_pass 0 = .ok (.aload_n 0, 1) := by decide +kernel
theorem dX11_pass_1 : decode cX11_pass 1 = .ok (.aload_n 0, 1) := by decide +kernel
theorem dX11_pass_2 : decode cX11_pass 2 = .ok (.invokevirtual 414, 3) := by decide +kernel
theorem dX11_pass_5 : decode cX11_pass 5 = .ok (.invokevirtual 405, 3) := by decide +kernel
theorem dX11_pass_8 : decode cX11_pass 8 = .ok (.ireturn, 1) := by decide +kernel
theorem dX11_stopped_0 : decode cX11_stopped 0 = .ok (.aload_n 0, 1) := by decide +kernel
theorem dX11_stopped_1 : decode cX11_stopped 1 = .ok (.getfield 103, 3) := by decide +kernel
theorem dX11_stopped_4 : decode cX11_stopped 4 = .ok (.ireturn, 1) := by decide +kernel
theorem dX11_orders_0 : decode cX11_orders 0 = .ok (.aload_n 0, 1) := by decide +kernel
theorem dX11_orders_1 : decode cX11_orders 1 = .ok (.iconst (-1), 1) := by decide +kernel
theorem dX11_orders_2 : decode cX11_orders 2 = .ok (.putfield 103, 3) := by decide +kernel
theorem dX11_orders_5 : decode cX11_orders 5 = .ok (.aload_n 0, 1) := by decide +kernel
theorem dX11_orders_6 : decode cX11_orders 6 = .ok (.iconst 1, 1) := by decide +kernel
theorem dX11_orders_7 : decode cX11_orders 7 = .ok (.invokevirtual 252, 3) := by decide +kernel
theorem dX11_orders_10 : decode cX11_orders 10 = .ok (.ifCond .ne 10, 3) := by decide +kernel
theorem dX11_orders_13 : decode cX11_orders 13 = .ok (.aload_n 0, 1) := by decide +kernel
theorem dX11_orders_14 : decode cX11_orders 14 = .ok (.bipush (-6), 2) := by decide +kernel
theorem dX11_orders_16 : decode cX11_orders 16 = .ok (.invokevirtual 112, 3) := by decide +kernel
theorem dX11_orders_19 : decode cX11_orders 19 = .ok (.ireturn, 1) := by decide +kernel
theorem dX11_orders_20 : decode cX11_orders 20 = .ok (.aload_n 0, 1) := by decide +kernel
theorem dX11_orders_21 : decode cX11_orders 21 = .ok (.iconst 1, 1) := by decide +kernel
theorem dX11_orders_22 : decode cX11_orders 22 = .ok (.invokevirtual 417, 3) := by decide +kernel
theorem dX11_orders_25 : decode cX11_orders 25 = .ok (.iconst 0, 1) := by decide +kernel
theorem dX11_orders_26 : decode cX11_orders 26 = .ok (.istore_n 1, 1) := by decide +kernel
theorem dX11_orders_27 : decode cX11_orders 27 = .ok (.iload_n 1, 1) := by decide +kernel
theorem dX11_orders_28 : decode cX11_orders 28 = .ok (.sipush 416, 3) := by decide +kernel
theorem dX11_orders_31 : decode cX11_orders 31 = .ok (.if_icmp .ge 21, 3) := by decide +kernel
theorem dX11_orders_34 : decode cX11_orders 34 = .ok (.aload_n 0, 1) := by decide +kernel
theorem dX11_orders_35 : decode cX11_orders 35 = .ok (.getfield 100, 3) := by decide +kernel
theorem dX11_orders_38 : decode cX11_orders 38 = .ok (.iload_n 1, 1) := by decide +kernel
theorem dX11_orders_39 : decode cX11_orders 39 = .ok (.aload_n 0, 1) := by decide +kernel
theorem dX11_orders_40 : decode cX11_orders 40 = .ok (.getfield 97, 3) := by decide +kernel
theorem dX11_orders_43 : decode cX11_orders 43 = .ok (.iload_n 1, 1) := by decide +kernel
theorem dX11_orders_44 : decode cX11_orders 44 = .ok (.iaload, 1) := by decide +kernel
theorem dX11_orders_45 : decode cX11_orders 45 = .ok (.iastore, 1) := by decide +kernel
theorem dX11_orders_46 : decode cX11_orders 46 = .ok (.iinc 1 1, 3) := by decide +kernel
theorem dX11_orders_49 : decode cX11_orders 49 = .ok (.goto (-22), 3) := by decide +kernel
theorem dX11_orders_52 : decode cX11_orders 52 = .ok (.aload_n 0, 1) := by decide +kernel
theorem dX11_orders_53 : decode cX11_orders 53 = .ok (.getfield 11, 3) := by decide +kernel
theorem dX11_orders_56 : decode cX11_orders 56 = .ok (.istore_n 1, 1) := by decide +kernel
theorem dX11_orders_57 : decode cX11_orders 57 = .ok (.aload_n 0, 1) := by decide +kernel
theorem dX11_orders_58 : decode cX11_orders 58 = .ok (.bipush 6, 2) := by decide +kernel
theorem dX11_orders_60 : decode cX11_orders 60 = .ok (.invokevirtual 256, 3) := by decide +kernel
theorem dX11_orders_63 : decode cX11_orders 63 = .ok (.aload_n 0, 1) := by decide +kernel
theorem dX11_orders_64 : decode cX11_orders 64 = .ok (.iconst 0, 1) := by decide +kernel
theorem dX11_orders_65 : decode cX11_orders 65 = .ok (.putfield 301, 3) := by decide +kernel
theorem dX11_orders_68 : decode cX11_orders 68 = .ok (.aload_n 0, 1) := by decide +kernel
theorem dX11_orders_69 : decode cX11_orders 69 = .ok (.iconst (-1), 1) := by decide +kernel
theorem dX11_orders_70 : decode cX11_orders 70 = .ok (.putfield 304, 3) := by decide +kernel
theorem dX11_orders_73 : decode cX11_orders 73 = .ok (.aload_n 0, 1) := by decide +kernel
theorem dX11_orders_74 : decode cX11_orders 74 = .ok (.sipush 2400, 3) := by decide +kernel
theorem dX11_orders_77 : decode cX11_orders 77 = .ok (.putfield 420, 3) := by decide +kernel
theorem dX11_orders_80 : decode cX11_orders 80 = .ok (.aload_n 0, 1) := by decide +kernel
theorem dX11_orders_81 : decode cX11_orders 81 = .ok (.getfield 420, 3) := by decide +kernel
theorem dX11_orders_84 : decode cX11_orders 84 = .ok (.aload_n 0, 1) := by decide +kernel
theorem dX11_orders_85 : decode cX11_orders 85 = .ok (.getfield 28, 3) := by decide +kernel
theorem dX11_orders_88 : decode cX11_orders 88 = .ok (.bipush 55, 2) := by decide +kernel
theorem dX11_orders_90 : decode cX11_orders 90 = .ok (.iaload, 1) := by decide +kernel
theorem dX11_orders_91 : decode cX11_orders 91 = .ok (.iadd, 1) := by decide +kernel
theorem dX11_orders_92 : decode cX11_orders 92 = .ok (.istore_n 2, 1) := by decide +kernel
theorem dX11_orders_93 : decode cX11_orders 93 = .ok (.iconst 0, 1) := by decide +kernel
theorem dX11_orders_94 : decode cX11_orders 94 = .ok (.istore_n 3, 1) := by decide +kernel
theorem dX11_orders_95 : decode cX11_orders 95 = .ok (.aload_n 0, 1) := by decide +kernel
theorem dX11_orders_96 : decode cX11_orders 96 = .ok (.getfield 420, 3) := by decide +kernel
theorem dX11_orders_99 : decode cX11_orders 99 = .ok (.iload_n 2, 1) := by decide +kernel
theorem dX11_orders_100 : decode cX11_orders 100 = .ok (.if_icmp .ge 73, 3) := by decide +kernel
theorem dX11_orders_103 : decode cX11_orders 103 = .ok (.aload_n 0, 1) := by decide +kernel
theorem dX11_orders_104 : decode cX11_orders 104 = .ok (.iload_n 2, 1) := by decide +kernel
theorem dX11_orders_105 : decode cX11_orders 105 = .ok (.invokevirtual 423, 3) := by decide +kernel
theorem dX11_orders_108 : decode cX11_orders 108 = .ok (.ifCond .eq 6, 3) := by decide +kernel
theorem dX11_orders_111 : decode cX11_orders 111 = .ok (.goto 56, 3) := by decide +kernel
theorem dX11_orders_114 : decode cX11_orders 114 = .ok (.aload_n 0, 1) := by decide +kernel
theorem dX11_orders_115 : decode cX11_orders 115 = .ok (.iconst 1, 1) := by decide +kernel
theorem dX11_orders_116 : decode cX11_orders 116 = .ok (.invokevirtual 426, 3) := by decide +kernel
theorem dX11_orders_119 : decode cX11_orders 119 = .ok (.iconst 0, 1) := by decide +kernel
theorem dX11_orders_120 : decode cX11_orders 120 = .ok (.istore 4, 2) := by decide +kernel
theorem dX11_orders_122 : decode cX11_orders 122 = .ok (.iload 4, 2) := by decide +kernel
theorem dX11_orders_124 : decode cX11_orders 124 = .ok (.sipush 416, 3) := by decide +kernel
theorem dX11_orders_127 : decode cX11_orders 127 = .ok (.if_icmp .ge 23, 3) := by decide +kernel
theorem dX11_orders_130 : decode cX11_orders 130 = .ok (.aload_n 0, 1) := by decide +kernel
theorem dX11_orders_131 : decode cX11_orders 131 = .ok (.getfield 97, 3) := by decide +kernel
theorem dX11_orders_134 : decode cX11_orders 134 = .ok (.iload 4, 2) := by decide +kernel
theorem dX11_orders_136 : decode cX11_orders 136 = .ok (.aload_n 0, 1) := by decide +kernel
theorem dX11_orders_137 : decode cX11_orders 137 = .ok (.getfield 100, 3) := by decide +kernel
theorem dX11_orders_140 : decode cX11_orders 140 = .ok (.iload 4, 2) := by decide +kernel
theorem dX11_orders_142 : decode cX11_orders 142 = .ok (.iaload, 1) := by decide +kernel
theorem dX11_orders_143 : decode cX11_orders 143 = .ok (.iastore, 1) := by decide +kernel
theorem dX11_orders_144 : decode cX11_orders 144 = .ok (.iinc 4 1, 3) := by decide +kernel
theorem dX11_orders_147 : decode cX11_orders 147 = .ok (.goto (-25), 3) := by decide +kernel
theorem dX11_orders_150 : decode cX11_orders 150 = .ok (.aload_n 0, 1) := by decide +kernel
theorem dX11_orders_151 : decode cX11_orders 151 = .ok (.iload_n 1, 1) := by decide +kernel
theorem dX11_orders_152 : decode cX11_orders 152 = .ok (.putfield 11, 3) := by decide +kernel
theorem dX11_orders_155 : decode cX11_orders 155 = .ok (.aload_n 0, 1) := by decide +kernel
theorem dX11_orders_156 : decode cX11_orders 156 = .ok (.iload_n 3, 1) := by decide +kernel
theorem dX11_orders_157 : decode cX11_orders 157 = .ok (.putfield 103, 3) := by decide +kernel
theorem dX11_orders_160 : decode cX11_orders 160 = .ok (.aload_n 0, 1) := by decide +kernel
theorem dX11_orders_161 : decode cX11_orders 161 = .ok (.bipush (-3), 2) := by decide +kernel
theorem dX11_orders_163 : decode cX11_orders 163 = .ok (.invokevirtual 112, 3) := by decide +kernel
theorem dX11_orders_166 : decode cX11_orders 166 = .ok (.ireturn, 1) := by decide +kernel
theorem dX11_orders_167 : decode cX11_orders 167 = .ok (.iinc 3 1, 3) := by decide +kernel
theorem dX11_orders_170 : decode cX11_orders 170 = .ok (.goto (-75), 3) := by decide +kernel
theorem dX11_orders_173 : decode cX11_orders 173 = .ok (.aload_n 0, 1) := by decide +kernel
theorem dX11_orders_174 : decode cX11_orders 174 = .ok (.aload_n 0, 1) := by decide +kernel
theorem dX11_orders_175 : decode cX11_orders 175 = .ok (.getfield 301, 3) := by decide +kernel
theorem dX11_orders_178 : decode cX11_orders 178 = .ok (.invokevirtual 14, 3) := by decide +kernel
theorem dX11_orders_181 : decode cX11_orders 181 = .ok (.ireturn, 1) := by decide +kernel
theorem dX11_hasWord_0 : decode cX11_hasWord 0 = .ok (.aload_n 0, 1) := by decide +kernel
theorem dX11_hasWord_1 : decode cX11_hasWord 1 = .ok (.getfield 420, 3) := by decide +kernel
theorem dX11_hasWord_4 : decode cX11_hasWord 4 = .ok (.istore_n 3, 1) := by decide +kernel
theorem dX11_hasWord_5 : decode cX11_hasWord 5 = .ok (.iload_n 3, 1) := by decide +kernel
theorem dX11_hasWord_6 : decode cX11_hasWord 6 = .ok (.iload_n 2, 1) := by decide +kernel
theorem dX11_hasWord_7 : decode cX11_hasWord 7 = .ok (.if_icmp .ge 33, 3) := by decide +kernel
theorem dX11_hasWord_10 : decode cX11_hasWord 10 = .ok (.aload_n 0, 1) := by decide +kernel
theorem dX11_hasWord_11 : decode cX11_hasWord 11 = .ok (.iload_n 3, 1) := by decide +kernel
theorem dX11_hasWord_12 : decode cX11_hasWord 12 = .ok (.invokevirtual 268, 3) := by decide +kernel
theorem dX11_hasWord_15 : decode cX11_hasWord 15 = .ok (.bipush 59, 2) := by decide +kernel
theorem dX11_hasWord_17 : decode cX11_hasWord 17 = .ok (.invokestatic 224, 3) := by decide +kernel
theorem dX11_hasWord_20 : decode cX11_hasWord 20 = .ok (.if_icmp .eq 20, 3) := by decide +kernel
theorem dX11_hasWord_23 : decode cX11_hasWord 23 = .ok (.aload_n 0, 1) := by decide +kernel
theorem dX11_hasWord_24 : decode cX11_hasWord 24 = .ok (.iload_n 3, 1) := by decide +kernel
theorem dX11_hasWord_25 : decode cX11_hasWord 25 = .ok (.invokevirtual 268, 3) := by decide +kernel
theorem dX11_hasWord_28 : decode cX11_hasWord 28 = .ok (.iload_n 1, 1) := by decide +kernel
theorem dX11_hasWord_29 : decode cX11_hasWord 29 = .ok (.if_icmp .ne 5, 3) := by decide +kernel
theorem dX11_hasWord_32 : decode cX11_hasWord 32 = .ok (.iconst 1, 1) := by decide +kernel
theorem dX11_hasWord_33 : decode cX11_hasWord 33 = .ok (.ireturn, 1) := by decide +kernel
theorem dX11_hasWord_34 : decode cX11_hasWord 34 = .ok (.iinc 3 1, 3) := by decide +kernel
theorem dX11_hasWord_37 : decode cX11_hasWord 37 = .ok (.goto (-32), 3) := by decide +kernel
theorem dX11_hasWord_40 : decode cX11_hasWord 40 = .ok (.iconst 0, 1) := by decide +kernel
theorem dX11_hasWord_41 : decode cX11_hasWord 41 = .ok (.ireturn, 1) := by decide +kernel
theorem dX11_goesAlong_0 : decode cX11_goesAlong 0 = .ok (.aload_n 0, 1) := by decide +kernel
theorem dX11_goesAlong_1 : decode cX11_goesAlong 1 = .ok (.iload_n 2, 1) := by decide +kernel
theorem dX11_goesAlong_2 : decode cX11_goesAlong 2 = .ok (.ifCond .eq 20, 3) := by decide +kernel
theorem dX11_goesAlong_5 : decode cX11_goesAlong 5 = .ok (.aload_n 0, 1) := by decide +kernel
theorem dX11_goesAlong_6 : decode cX11_goesAlong 6 = .ok (.bipush 18, 2) := by decide +kernel
theorem dX11_goesAlong_8 : decode cX11_goesAlong 8 = .ok (.iload_n 1, 1) := by decide +kernel
theorem dX11_goesAlong_9 : decode cX11_goesAlong 9 = .ok (.invokevirtual 429, 3) := by decide +kernel
theorem dX11_goesAlong_12 : decode cX11_goesAlong 12 = .ok (.ifCond .eq 10, 3) := by decide +kernel
theorem dX11_goesAlong_15 : decode cX11_goesAlong 15 = .ok (.aload_n 0, 1) := by decide +kernel
theorem dX11_goesAlong_16 : decode cX11_goesAlong 16 = .ok (.invokevirtual 432, 3) := by decide +kernel
theorem dX11_goesAlong_19 : decode cX11_goesAlong 19 = .ok (.goto 4, 3) := by decide +kernel
theorem dX11_goesAlong_22 : decode cX11_goesAlong 22 = .ok (.iconst 0, 1) := by decide +kernel
theorem dX11_goesAlong_23 : decode cX11_goesAlong 23 = .ok (.putfield 307, 3) := by decide +kernel
theorem dX11_goesAlong_26 : decode cX11_goesAlong 26 = .ok (.aload_n 0, 1) := by decide +kernel
theorem dX11_goesAlong_27 : decode cX11_goesAlong 27 = .ok (.iconst 1, 1) := by decide +kernel
theorem dX11_goesAlong_28 : decode cX11_goesAlong 28 = .ok (.putfield 295, 3) := by decide +kernel
theorem dX11_goesAlong_31 : decode cX11_goesAlong 31 = .ok (.aload_n 0, 1) := by decide +kernel
theorem dX11_goesAlong_32 : decode cX11_goesAlong 32 = .ok (.iload_n 1, 1) := by decide +kernel
theorem dX11_goesAlong_33 : decode cX11_goesAlong 33 = .ok (.putfield 262, 3) := by decide +kernel
theorem dX11_goesAlong_36 : decode cX11_goesAlong 36 = .ok (.aload_n 0, 1) := by decide +kernel
theorem dX11_goesAlong_37 : decode cX11_goesAlong 37 = .ok (.aload_n 0, 1) := by decide +kernel
theorem dX11_goesAlong_38 : decode cX11_goesAlong 38 = .ok (.getfield 420, 3) := by decide +kernel
theorem dX11_goesAlong_41 : decode cX11_goesAlong 41 = .ok (.putfield 265, 3) := by decide +kernel
theorem dX11_goesAlong_44 : decode cX11_goesAlong 44 = .ok (.aload_n 0, 1) := by decide +kernel
theorem dX11_goesAlong_45 : decode cX11_goesAlong 45 = .ok (.aload_n 0, 1) := by decide +kernel
theorem dX11_goesAlong_46 : decode cX11_goesAlong 46 = .ok (.aload_n 0, 1) := by decide +kernel
theorem dX11_goesAlong_47 : decode cX11_goesAlong 47 = .ok (.getfield 265, 3) := by decide +kernel
theorem dX11_goesAlong_50 : decode cX11_goesAlong 50 = .ok (.invokevirtual 268, 3) := by decide +kernel
theorem dX11_goesAlong_53 : decode cX11_goesAlong 53 = .ok (.putfield 435, 3) := by decide +kernel
theorem dX11_goesAlong_56 : decode cX11_goesAlong 56 = .ok (.aload_n 0, 1) := by decide +kernel
theorem dX11_goesAlong_57 : decode cX11_goesAlong 57 = .ok (.dup, 1) := by decide +kernel
theorem dX11_goesAlong_58 : decode cX11_goesAlong 58 = .ok (.getfield 265, 3) := by decide +kernel
theorem dX11_goesAlong_61 : decode cX11_goesAlong 61 = .ok (.iconst 1, 1) := by decide +kernel
theorem dX11_goesAlong_62 : decode cX11_goesAlong 62 = .ok (.iadd, 1) := by decide +kernel
theorem dX11_goesAlong_63 : decode cX11_goesAlong 63 = .ok (.putfield 265, 3) := by decide +kernel
theorem dX11_goesAlong_66 : decode cX11_goesAlong 66 = .ok (.aload_n 0, 1) := by decide +kernel
theorem dX11_goesAlong_67 : decode cX11_goesAlong 67 = .ok (.iconst 1, 1) := by decide +kernel
theorem dX11_goesAlong_68 : decode cX11_goesAlong 68 = .ok (.putfield 438, 3) := by decide +kernel
theorem dX11_goesAlong_71 : decode cX11_goesAlong 71 = .ok (.aload_n 0, 1) := by decide +kernel
theorem dX11_goesAlong_72 : decode cX11_goesAlong 72 = .ok (.getfield 435, 3) := by decide +kernel
theorem dX11_goesAlong_75 : decode cX11_goesAlong 75 = .ok (.bipush 26, 2) := by decide +kernel
theorem dX11_goesAlong_77 : decode cX11_goesAlong 77 = .ok (.if_icmp .ne 7, 3) := by decide +kernel
theorem dX11_goesAlong_80 : decode cX11_goesAlong 80 = .ok (.iconst 0, 1) := by decide +kernel
theorem dX11_goesAlong_81 : decode cX11_goesAlong 81 = .ok (.goto 17, 3) := by decide +kernel
theorem dX11_goesAlong_84 : decode cX11_goesAlong 84 = .ok (.aload_n 0, 1) := by decide +kernel
theorem dX11_goesAlong_85 : decode cX11_goesAlong 85 = .ok (.getfield 435, 3) := by decide +kernel
theorem dX11_goesAlong_88 : decode cX11_goesAlong 88 = .ok (.bipush 25, 2) := by decide +kernel
theorem dX11_goesAlong_90 : decode cX11_goesAlong 90 = .ok (.if_icmp .ne 7, 3) := by decide +kernel
theorem dX11_goesAlong_93 : decode cX11_goesAlong 93 = .ok (.iconst 1, 1) := by decide +kernel
theorem dX11_goesAlong_94 : decode cX11_goesAlong 94 = .ok (.goto 4, 3) := by decide +kernel
theorem dX11_goesAlong_97 : decode cX11_goesAlong 97 = .ok (.iconst 2, 1) := by decide +kernel
theorem dX11_goesAlong_98 : decode cX11_goesAlong 98 = .ok (.istore_n 3, 1) := by decide +kernel
theorem dX11_goesAlong_99 : decode cX11_goesAlong 99 = .ok (.iconst 0, 1) := by decide +kernel
theorem dX11_goesAlong_100 : decode cX11_goesAlong 100 = .ok (.istore 4, 2) := by decide +kernel
theorem dX11_goesAlong_102 : decode cX11_goesAlong 102 = .ok (.iload 4, 2) := by decide +kernel
theorem dX11_goesAlong_104 : decode cX11_goesAlong 104 = .ok (.iload_n 3, 1) := by decide +kernel
theorem dX11_goesAlong_105 : decode cX11_goesAlong 105 = .ok (.if_icmp .ge 64, 3) := by decide +kernel
theorem dX11_goesAlong_108 : decode cX11_goesAlong 108 = .ok (.iload 4, 2) := by decide +kernel
theorem dX11_goesAlong_110 : decode cX11_goesAlong 110 = .ok (.ifCond .le 13, 3) := by decide +kernel
theorem dX11_goesAlong_113 : decode cX11_goesAlong 113 = .ok (.aload_n 0, 1) := by decide +kernel
theorem dX11_goesAlong_114 : decode cX11_goesAlong 114 = .ok (.dup, 1) := by decide +kernel
theorem dX11_goesAlong_115 : decode cX11_goesAlong 115 = .ok (.getfield 265, 3) := by decide +kernel
theorem dX11_goesAlong_118 : decode cX11_goesAlong 118 = .ok (.iconst 1, 1) := by decide +kernel
theorem dX11_goesAlong_119 : decode cX11_goesAlong 119 = .ok (.iadd, 1) := by decide +kernel
theorem dX11_goesAlong_120 : decode cX11_goesAlong 120 = .ok (.putfield 265, 3) := by decide +kernel
theorem dX11_goesAlong_123 : decode cX11_goesAlong 123 = .ok (.aload_n 0, 1) := by decide +kernel
theorem dX11_goesAlong_124 : decode cX11_goesAlong 124 = .ok (.iconst 0, 1) := by decide +kernel
theorem dX11_goesAlong_125 : decode cX11_goesAlong 125 = .ok (.putfield 275, 3) := by decide +kernel
theorem dX11_goesAlong_128 : decode cX11_goesAlong 128 = .ok (.aload_n 0, 1) := by decide +kernel
theorem dX11_goesAlong_129 : decode cX11_goesAlong 129 = .ok (.getfield 106, 3) := by decide +kernel
theorem dX11_goesAlong_132 : decode cX11_goesAlong 132 = .ok (.iload 4, 2) := by decide +kernel
theorem dX11_goesAlong_134 : decode cX11_goesAlong 134 = .ok (.aload_n 0, 1) := by decide +kernel
theorem dX11_goesAlong_135 : decode cX11_goesAlong 135 = .ok (.iload_n 2, 1) := by decide +kernel
theorem dX11_goesAlong_136 : decode cX11_goesAlong 136 = .ok (.invokevirtual 292, 3) := by decide +kernel
theorem dX11_goesAlong_139 : decode cX11_goesAlong 139 = .ok (.lastore, 1) := by decide +kernel
theorem dX11_goesAlong_140 : decode cX11_goesAlong 140 = .ok (.aload_n 0, 1) := by decide +kernel
theorem dX11_goesAlong_141 : decode cX11_goesAlong 141 = .ok (.aload_n 0, 1) := by decide +kernel
theorem dX11_goesAlong_142 : decode cX11_goesAlong 142 = .ok (.getfield 438, 3) := by decide +kernel
theorem dX11_goesAlong_145 : decode cX11_goesAlong 145 = .ok (.ifCond .eq 14, 3) := by decide +kernel
theorem dX11_goesAlong_148 : decode cX11_goesAlong 148 = .ok (.aload_n 0, 1) := by decide +kernel
theorem dX11_goesAlong_149 : decode cX11_goesAlong 149 = .ok (.getfield 275, 3) := by decide +kernel
theorem dX11_goesAlong_152 : decode cX11_goesAlong 152 = .ok (.ifCond .ne 7, 3) := by decide +kernel
theorem dX11_goesAlong_155 : decode cX11_goesAlong 155 = .ok (.iconst 1, 1) := by decide +kernel
theorem dX11_goesAlong_156 : decode cX11_goesAlong 156 = .ok (.goto 4, 3) := by decide +kernel
theorem dX11_goesAlong_159 : decode cX11_goesAlong 159 = .ok (.iconst 0, 1) := by decide +kernel
theorem dX11_goesAlong_160 : decode cX11_goesAlong 160 = .ok (.putfield 438, 3) := by decide +kernel
theorem dX11_goesAlong_163 : decode cX11_goesAlong 163 = .ok (.iinc 4 1, 3) := by decide +kernel
theorem dX11_goesAlong_166 : decode cX11_goesAlong 166 = .ok (.goto (-64), 3) := by decide +kernel
theorem dX11_goesAlong_169 : decode cX11_goesAlong 169 = .ok (.aload_n 0, 1) := by decide +kernel
theorem dX11_goesAlong_170 : decode cX11_goesAlong 170 = .ok (.iconst 1, 1) := by decide +kernel
theorem dX11_goesAlong_171 : decode cX11_goesAlong 171 = .ok (.putfield 441, 3) := by decide +kernel
theorem dX11_goesAlong_174 : decode cX11_goesAlong 174 = .ok (.aload_n 0, 1) := by decide +kernel
theorem dX11_goesAlong_175 : decode cX11_goesAlong 175 = .ok (.bipush 27, 2) := by decide +kernel
theorem dX11_goesAlong_177 : decode cX11_goesAlong 177 = .ok (.invokevirtual 289, 3) := by decide +kernel
theorem dX11_goesAlong_180 : decode cX11_goesAlong 180 = .ok (.ifCond .eq 30, 3) := by decide +kernel
theorem dX11_goesAlong_183 : decode cX11_goesAlong 183 = .ok (.aload_n 0, 1) := by decide +kernel
theorem dX11_goesAlong_184 : decode cX11_goesAlong 184 = .ok (.aload_n 0, 1) := by decide +kernel
theorem dX11_goesAlong_185 : decode cX11_goesAlong 185 = .ok (.getfield 28, 3) := by decide +kernel
theorem dX11_goesAlong_188 : decode cX11_goesAlong 188 = .ok (.sipush 2856, 3) := by decide +kernel
theorem dX11_goesAlong_191 : decode cX11_goesAlong 191 = .ok (.aload_n 0, 1) := by decide +kernel
theorem dX11_goesAlong_192 : decode cX11_goesAlong 192 = .ok (.getfield 265, 3) := by decide +kernel
theorem dX11_goesAlong_195 : decode cX11_goesAlong 195 = .ok (.iadd, 1) := by decide +kernel
theorem dX11_goesAlong_196 : decode cX11_goesAlong 196 = .ok (.iaload, 1) := by decide +kernel
theorem dX11_goesAlong_197 : decode cX11_goesAlong 197 = .ok (.putfield 441, 3) := by decide +kernel
theorem dX11_goesAlong_200 : decode cX11_goesAlong 200 = .ok (.aload_n 0, 1) := by decide +kernel
theorem dX11_goesAlong_201 : decode cX11_goesAlong 201 = .ok (.dup, 1) := by decide +kernel
theorem dX11_goesAlong_202 : decode cX11_goesAlong 202 = .ok (.getfield 265, 3) := by decide +kernel
theorem dX11_goesAlong_205 : decode cX11_goesAlong 205 = .ok (.iconst 1, 1) := by decide +kernel
theorem dX11_goesAlong_206 : decode cX11_goesAlong 206 = .ok (.iadd, 1) := by decide +kernel
theorem dX11_goesAlong_207 : decode cX11_goesAlong 207 = .ok (.putfield 265, 3) := by decide +kernel
theorem dX11_goesAlong_210 : decode cX11_goesAlong 210 = .ok (.aload_n 0, 1) := by decide +kernel
theorem dX11_goesAlong_211 : decode cX11_goesAlong 211 = .ok (.iconst 0, 1) := by decide +kernel
theorem dX11_goesAlong_212 : decode cX11_goesAlong 212 = .ok (.putfield 275, 3) := by decide +kernel
theorem dX11_goesAlong_215 : decode cX11_goesAlong 215 = .ok (.aload_n 0, 1) := by decide +kernel
theorem dX11_goesAlong_216 : decode cX11_goesAlong 216 = .ok (.aload_n 0, 1) := by decide +kernel
theorem dX11_goesAlong_217 : decode cX11_goesAlong 217 = .ok (.iconst 4, 1) := by decide +kernel
theorem dX11_goesAlong_218 : decode cX11_goesAlong 218 = .ok (.invokevirtual 289, 3) := by decide +kernel
theorem dX11_goesAlong_221 : decode cX11_goesAlong 221 = .ok (.ifCond .eq 11, 3) := by decide +kernel
theorem dX11_goesAlong_224 : decode cX11_goesAlong 224 = .ok (.aload_n 0, 1) := by decide +kernel
theorem dX11_goesAlong_225 : decode cX11_goesAlong 225 = .ok (.iload_n 2, 1) := by decide +kernel
theorem dX11_goesAlong_226 : decode cX11_goesAlong 226 = .ok (.invokevirtual 322, 3) := by decide +kernel
theorem dX11_goesAlong_229 : decode cX11_goesAlong 229 = .ok (.ifCond .eq 7, 3) := by decide +kernel
theorem dX11_goesAlong_232 : decode cX11_goesAlong 232 = .ok (.iconst 1, 1) := by decide +kernel
theorem dX11_goesAlong_233 : decode cX11_goesAlong 233 = .ok (.goto 4, 3) := by decide +kernel
theorem dX11_goesAlong_236 : decode cX11_goesAlong 236 = .ok (.iconst 0, 1) := by decide +kernel
theorem dX11_goesAlong_237 : decode cX11_goesAlong 237 = .ok (.putfield 444, 3) := by decide +kernel
theorem dX11_goesAlong_240 : decode cX11_goesAlong 240 = .ok (.aload_n 0, 1) := by decide +kernel
theorem dX11_goesAlong_241 : decode cX11_goesAlong 241 = .ok (.aload_n 0, 1) := by decide +kernel
theorem dX11_goesAlong_242 : decode cX11_goesAlong 242 = .ok (.getfield 444, 3) := by decide +kernel
theorem dX11_goesAlong_245 : decode cX11_goesAlong 245 = .ok (.ifCond .eq 14, 3) := by decide +kernel
theorem dX11_goesAlong_248 : decode cX11_goesAlong 248 = .ok (.aload_n 0, 1) := by decide +kernel
theorem dX11_goesAlong_249 : decode cX11_goesAlong 249 = .ok (.getfield 275, 3) := by decide +kernel
theorem dX11_goesAlong_252 : decode cX11_goesAlong 252 = .ok (.ifCond .ne 7, 3) := by decide +kernel
theorem dX11_goesAlong_255 : decode cX11_goesAlong 255 = .ok (.iconst 1, 1) := by decide +kernel
theorem dX11_goesAlong_256 : decode cX11_goesAlong 256 = .ok (.goto 4, 3) := by decide +kernel
theorem dX11_goesAlong_259 : decode cX11_goesAlong 259 = .ok (.iconst 0, 1) := by decide +kernel
theorem dX11_goesAlong_260 : decode cX11_goesAlong 260 = .ok (.putfield 444, 3) := by decide +kernel
theorem dX11_goesAlong_263 : decode cX11_goesAlong 263 = .ok (.aload_n 0, 1) := by decide +kernel
theorem dX11_goesAlong_264 : decode cX11_goesAlong 264 = .ok (.dup, 1) := by decide +kernel
theorem dX11_goesAlong_265 : decode cX11_goesAlong 265 = .ok (.getfield 265, 3) := by decide +kernel
theorem dX11_goesAlong_268 : decode cX11_goesAlong 268 = .ok (.iconst 1, 1) := by decide +kernel
theorem dX11_goesAlong_269 : decode cX11_goesAlong 269 = .ok (.iadd, 1) := by decide +kernel
theorem dX11_goesAlong_270 : decode cX11_goesAlong 270 = .ok (.putfield 265, 3) := by decide +kernel
theorem dX11_goesAlong_273 : decode cX11_goesAlong 273 = .ok (.return_, 1) := by decide +kernel
theorem dX11_small_0 : decode cX11_small 0 = .ok (.lload_n 0, 1) := by decide +kernel
theorem dX11_small_1 : decode cX11_small 1 = .ok (.ldc2_w 447, 3) := by decide +kernel
theorem dX11_small_4 : decode cX11_small 4 = .ok (.lcmp, 1) := by decide +kernel
theorem dX11_small_5 : decode cX11_small 5 = .ok (.ifCond .lt 11, 3) := by decide +kernel
theorem dX11_small_8 : decode cX11_small 8 = .ok (.lload_n 0, 1) := by decide +kernel
theorem dX11_small_9 : decode cX11_small 9 = .ok (.ldc2_w 449, 3) := by decide +kernel
theorem dX11_small_12 : decode cX11_small 12 = .ok (.lcmp, 1) := by decide +kernel
theorem dX11_small_13 : decode cX11_small 13 = .ok (.ifCond .le 9, 3) := by decide +kernel
theorem dX11_small_16 : decode cX11_small 16 = .ok (.ldc_w 338, 3) := by decide +kernel
theorem dX11_small_19 : decode cX11_small 19 = .ok (.goto 5, 3) := by decide +kernel
theorem dX11_small_22 : decode cX11_small 22 = .ok (.lload_n 0, 1) := by decide +kernel
theorem dX11_small_23 : decode cX11_small 23 = .ok (.l2i, 1) := by decide +kernel
theorem dX11_small_24 : decode cX11_small 24 = .ok (.ireturn, 1) := by decide +kernel
theorem dX11_obeys_0 : decode cX11_obeys 0 = .ok (.aload_n 0, 1) := by decide +kernel
theorem dX11_obeys_1 : decode cX11_obeys 1 = .ok (.getfield 106, 3) := by decide +kernel
theorem dX11_obeys_4 : decode cX11_obeys 4 = .ok (.iconst 0, 1) := by decide +kernel
theorem dX11_obeys_5 : decode cX11_obeys 5 = .ok (.laload, 1) := by decide +kernel
theorem dX11_obeys_6 : decode cX11_obeys 6 = .ok (.invokestatic 451, 3) := by decide +kernel
theorem dX11_obeys_9 : decode cX11_obeys 9 = .ok (.istore_n 1, 1) := by decide +kernel
theorem dX11_obeys_10 : decode cX11_obeys 10 = .ok (.aload_n 0, 1) := by decide +kernel
theorem dX11_obeys_11 : decode cX11_obeys 11 = .ok (.getfield 435, 3) := by decide +kernel
theorem dX11_obeys_14 : decode cX11_obeys 14 = .ok (.tableswitch 74 23 26 #[30, 74, 45, 69], 30) := by decide +kernel
theorem dX11_obeys_44 : decode cX11_obeys 44 = .ok (.aload_n 0, 1) := by decide +kernel
theorem dX11_obeys_45 : decode cX11_obeys 45 = .ok (.iload_n 1, 1) := by decide +kernel
theorem dX11_obeys_46 : decode cX11_obeys 46 = .ok (.aload_n 0, 1) := by decide +kernel
theorem dX11_obeys_47 : decode cX11_obeys 47 = .ok (.getfield 106, 3) := by decide +kernel
theorem dX11_obeys_50 : decode cX11_obeys 50 = .ok (.iconst 1, 1) := by decide +kernel
theorem dX11_obeys_51 : decode cX11_obeys 51 = .ok (.laload, 1) := by decide +kernel
theorem dX11_obeys_52 : decode cX11_obeys 52 = .ok (.invokestatic 451, 3) := by decide +kernel
theorem dX11_obeys_55 : decode cX11_obeys 55 = .ok (.invokevirtual 408, 3) := by decide +kernel
theorem dX11_obeys_58 : decode cX11_obeys 58 = .ok (.ireturn, 1) := by decide +kernel
theorem dX11_obeys_59 : decode cX11_obeys 59 = .ok (.aload_n 0, 1) := by decide +kernel
theorem dX11_obeys_60 : decode cX11_obeys 60 = .ok (.iload_n 1, 1) := by decide +kernel
theorem dX11_obeys_61 : decode cX11_obeys 61 = .ok (.invokevirtual 411, 3) := by decide +kernel
theorem dX11_obeys_64 : decode cX11_obeys 64 = .ok (.istore_n 2, 1) := by decide +kernel
theorem dX11_obeys_65 : decode cX11_obeys 65 = .ok (.aload_n 0, 1) := by decide +kernel
theorem dX11_obeys_66 : decode cX11_obeys 66 = .ok (.iload_n 2, 1) := by decide +kernel
theorem dX11_obeys_67 : decode cX11_obeys 67 = .ok (.ifCond .ge 10, 3) := by decide +kernel
theorem dX11_obeys_70 : decode cX11_obeys 70 = .ok (.aload_n 0, 1) := by decide +kernel
theorem dX11_obeys_71 : decode cX11_obeys 71 = .ok (.getfield 304, 3) := by decide +kernel
theorem dX11_obeys_74 : decode cX11_obeys 74 = .ok (.goto 4, 3) := by decide +kernel
theorem dX11_obeys_77 : decode cX11_obeys 77 = .ok (.iload_n 2, 1) := by decide +kernel
theorem dX11_obeys_78 : decode cX11_obeys 78 = .ok (.putfield 304, 3) := by decide +kernel
theorem dX11_obeys_81 : decode cX11_obeys 81 = .ok (.iload_n 2, 1) := by decide +kernel
theorem dX11_obeys_82 : decode cX11_obeys 82 = .ok (.ireturn, 1) := by decide +kernel
theorem dX11_obeys_83 : decode cX11_obeys 83 = .ok (.aload_n 0, 1) := by decide +kernel
theorem dX11_obeys_84 : decode cX11_obeys 84 = .ok (.invokevirtual 414, 3) := by decide +kernel
theorem dX11_obeys_87 : decode cX11_obeys 87 = .ok (.ireturn, 1) := by decide +kernel
theorem dX11_obeys_88 : decode cX11_obeys 88 = .ok (.aload_n 0, 1) := by decide +kernel
theorem dX11_obeys_89 : decode cX11_obeys 89 = .ok (.iload_n 1, 1) := by decide +kernel
theorem dX11_obeys_90 : decode cX11_obeys 90 = .ok (.aload_n 0, 1) := by decide +kernel
theorem dX11_obeys_91 : decode cX11_obeys 91 = .ok (.getfield 106, 3) := by decide +kernel
theorem dX11_obeys_94 : decode cX11_obeys 94 = .ok (.iconst 1, 1) := by decide +kernel
theorem dX11_obeys_95 : decode cX11_obeys 95 = .ok (.laload, 1) := by decide +kernel
theorem dX11_obeys_96 : decode cX11_obeys 96 = .ok (.invokestatic 451, 3) := by decide +kernel
theorem dX11_obeys_99 : decode cX11_obeys 99 = .ok (.invokevirtual 402, 3) := by decide +kernel
theorem dX11_obeys_102 : decode cX11_obeys 102 = .ok (.ireturn, 1) := by decide +kernel
theorem dX11_runs_0 : decode cX11_runs 0 = .ok (.aload_n 0, 1) := by decide +kernel
theorem dX11_runs_1 : decode cX11_runs 1 = .ok (.iload_n 1, 1) := by decide +kernel
theorem dX11_runs_2 : decode cX11_runs 2 = .ok (.iconst 0, 1) := by decide +kernel
theorem dX11_runs_3 : decode cX11_runs 3 = .ok (.invokevirtual 455, 3) := by decide +kernel
theorem dX11_runs_6 : decode cX11_runs 6 = .ok (.aload_n 0, 1) := by decide +kernel
theorem dX11_runs_7 : decode cX11_runs 7 = .ok (.getfield 441, 3) := by decide +kernel
theorem dX11_runs_10 : decode cX11_runs 10 = .ok (.istore_n 2, 1) := by decide +kernel
theorem dX11_runs_11 : decode cX11_runs 11 = .ok (.aload_n 0, 1) := by decide +kernel
theorem dX11_runs_12 : decode cX11_runs 12 = .ok (.getfield 265, 3) := by decide +kernel
theorem dX11_runs_15 : decode cX11_runs 15 = .ok (.istore_n 3, 1) := by decide +kernel
theorem dX11_runs_16 : decode cX11_runs 16 = .ok (.iconst 0, 1) := by decide +kernel
theorem dX11_runs_17 : decode cX11_runs 17 = .ok (.istore 4, 2) := by decide +kernel
theorem dX11_runs_19 : decode cX11_runs 19 = .ok (.iload 4, 2) := by decide +kernel
theorem dX11_runs_21 : decode cX11_runs 21 = .ok (.iload_n 2, 1) := by decide +kernel
theorem dX11_runs_22 : decode cX11_runs 22 = .ok (.if_icmp .ge 51, 3) := by decide +kernel
theorem dX11_runs_25 : decode cX11_runs 25 = .ok (.aload_n 0, 1) := by decide +kernel
theorem dX11_runs_26 : decode cX11_runs 26 = .ok (.iload_n 1, 1) := by decide +kernel
theorem dX11_runs_27 : decode cX11_runs 27 = .ok (.iconst 1, 1) := by decide +kernel
theorem dX11_runs_28 : decode cX11_runs 28 = .ok (.invokevirtual 455, 3) := by decide +kernel
theorem dX11_runs_31 : decode cX11_runs 31 = .ok (.aload_n 0, 1) := by decide +kernel
theorem dX11_runs_32 : decode cX11_runs 32 = .ok (.getfield 444, 3) := by decide +kernel
theorem dX11_runs_35 : decode cX11_runs 35 = .ok (.ifCond .ne 6, 3) := by decide +kernel
theorem dX11_runs_38 : decode cX11_runs 38 = .ok (.goto 29, 3) := by decide +kernel
theorem dX11_runs_41 : decode cX11_runs 41 = .ok (.aload_n 0, 1) := by decide +kernel
theorem dX11_runs_42 : decode cX11_runs 42 = .ok (.getfield 438, 3) := by decide +kernel
theorem dX11_runs_45 : decode cX11_runs 45 = .ok (.ifCond .eq 10, 3) := by decide +kernel
theorem dX11_runs_48 : decode cX11_runs 48 = .ok (.aload_n 0, 1) := by decide +kernel
theorem dX11_runs_49 : decode cX11_runs 49 = .ok (.invokevirtual 459, 3) := by decide +kernel
theorem dX11_runs_52 : decode cX11_runs 52 = .ok (.ifCond .ge 5, 3) := by decide +kernel
theorem dX11_runs_55 : decode cX11_runs 55 = .ok (.iconst 0, 1) := by decide +kernel
theorem dX11_runs_56 : decode cX11_runs 56 = .ok (.ireturn, 1) := by decide +kernel
theorem dX11_runs_57 : decode cX11_runs 57 = .ok (.aload_n 0, 1) := by decide +kernel
theorem dX11_runs_58 : decode cX11_runs 58 = .ok (.dup, 1) := by decide +kernel
theorem dX11_runs_59 : decode cX11_runs 59 = .ok (.getfield 301, 3) := by decide +kernel
theorem dX11_runs_62 : decode cX11_runs 62 = .ok (.iconst 1, 1) := by decide +kernel
theorem dX11_runs_63 : decode cX11_runs 63 = .ok (.iadd, 1) := by decide +kernel
theorem dX11_runs_64 : decode cX11_runs 64 = .ok (.putfield 301, 3) := by decide +kernel
theorem dX11_runs_67 : decode cX11_runs 67 = .ok (.iinc 4 1, 3) := by decide +kernel
theorem dX11_runs_70 : decode cX11_runs 70 = .ok (.goto (-51), 3) := by decide +kernel
theorem dX11_runs_73 : decode cX11_runs 73 = .ok (.aload_n 0, 1) := by decide +kernel
theorem dX11_runs_74 : decode cX11_runs 74 = .ok (.iload_n 3, 1) := by decide +kernel
theorem dX11_runs_75 : decode cX11_runs 75 = .ok (.putfield 420, 3) := by decide +kernel
theorem dX11_runs_78 : decode cX11_runs 78 = .ok (.iconst 1, 1) := by decide +kernel
theorem dX11_runs_79 : decode cX11_runs 79 = .ok (.ireturn, 1) := by decide +kernel
theorem dX11_draws_0 : decode cX11_draws 0 = .ok (.aload_n 0, 1) := by decide +kernel
theorem dX11_draws_1 : decode cX11_draws 1 = .ok (.ldc2_w 462, 3) := by decide +kernel
theorem dX11_draws_4 : decode cX11_draws 4 = .ok (.aload_n 0, 1) := by decide +kernel
theorem dX11_draws_5 : decode cX11_draws 5 = .ok (.getfield 464, 3) := by decide +kernel
theorem dX11_draws_8 : decode cX11_draws 8 = .ok (.i2l, 1) := by decide +kernel
theorem dX11_draws_9 : decode cX11_draws 9 = .ok (.lmul, 1) := by decide +kernel
theorem dX11_draws_10 : decode cX11_draws 10 = .ok (.ldc2_w 467, 3) := by decide +kernel
theorem dX11_draws_13 : decode cX11_draws 13 = .ok (.ladd, 1) := by decide +kernel
theorem dX11_draws_14 : decode cX11_draws 14 = .ok (.ldc2_w 469, 3) := by decide +kernel
theorem dX11_draws_17 : decode cX11_draws 17 = .ok (.lrem, 1) := by decide +kernel
theorem dX11_draws_18 : decode cX11_draws 18 = .ok (.l2i, 1) := by decide +kernel
theorem dX11_draws_19 : decode cX11_draws 19 = .ok (.putfield 464, 3) := by decide +kernel
theorem dX11_draws_22 : decode cX11_draws 22 = .ok (.aload_n 0, 1) := by decide +kernel
theorem dX11_draws_23 : decode cX11_draws 23 = .ok (.getfield 464, 3) := by decide +kernel
theorem dX11_draws_26 : decode cX11_draws 26 = .ok (.iload_n 1, 1) := by decide +kernel
theorem dX11_draws_27 : decode cX11_draws 27 = .ok (.irem, 1) := by decide +kernel
theorem dX11_draws_28 : decode cX11_draws 28 = .ok (.ireturn, 1) := by decide +kernel
theorem dX11_happens_0 : decode cX11_happens 0 = .ok (.aload_n 0, 1) := by decide +kernel
theorem dX11_happens_1 : decode cX11_happens 1 = .ok (.bipush 16, 2) := by decide +kernel
theorem dX11_happens_3 : decode cX11_happens 3 = .ok (.invokevirtual 471, 3) := by decide +kernel
theorem dX11_happens_6 : decode cX11_happens 6 = .ok (.istore_n 1, 1) := by decide +kernel
theorem dX11_happens_7 : decode cX11_happens 7 = .ok (.aload_n 0, 1) := by decide +kernel
theorem dX11_happens_8 : decode cX11_happens 8 = .ok (.bipush 8, 2) := by decide +kernel
theorem dX11_happens_10 : decode cX11_happens 10 = .ok (.invokevirtual 471, 3) := by decide +kernel
theorem dX11_happens_13 : decode cX11_happens 13 = .ok (.istore_n 2, 1) := by decide +kernel
theorem dX11_happens_14 : decode cX11_happens 14 = .ok (.aload_n 0, 1) := by decide +kernel
theorem dX11_happens_15 : decode cX11_happens 15 = .ok (.aload_n 0, 1) := by decide +kernel
theorem dX11_happens_16 : decode cX11_happens 16 = .ok (.invokevirtual 118, 3) := by decide +kernel
theorem dX11_happens_19 : decode cX11_happens 19 = .ok (.invokevirtual 471, 3) := by decide +kernel
theorem dX11_happens_22 : decode cX11_happens 22 = .ok (.istore_n 3, 1) := by decide +kernel
theorem dX11_happens_23 : decode cX11_happens 23 = .ok (.aload_n 0, 1) := by decide +kernel
theorem dX11_happens_24 : decode cX11_happens 24 = .ok (.iconst 3, 1) := by decide +kernel
theorem dX11_happens_25 : decode cX11_happens 25 = .ok (.invokevirtual 471, 3) := by decide +kernel
theorem dX11_happens_28 : decode cX11_happens 28 = .ok (.istore 4, 2) := by decide +kernel
theorem dX11_happens_30 : decode cX11_happens 30 = .ok (.iload 4, 2) := by decide +kernel
theorem dX11_happens_32 : decode cX11_happens 32 = .ok (.ifCond .ne 18, 3) := by decide +kernel
theorem dX11_happens_35 : decode cX11_happens 35 = .ok (.aload_n 0, 1) := by decide +kernel
theorem dX11_happens_36 : decode cX11_happens 36 = .ok (.getfield 28, 3) := by decide +kernel
theorem dX11_happens_39 : decode cX11_happens 39 = .ok (.bipush 8, 2) := by decide +kernel
theorem dX11_happens_41 : decode cX11_happens 41 = .ok (.iload_n 1, 1) := by decide +kernel
theorem dX11_happens_42 : decode cX11_happens 42 = .ok (.iadd, 1) := by decide +kernel
theorem dX11_happens_43 : decode cX11_happens 43 = .ok (.dup2, 1) := by decide +kernel
theorem dX11_happens_44 : decode cX11_happens 44 = .ok (.iaload, 1) := by decide +kernel
theorem dX11_happens_45 : decode cX11_happens 45 = .ok (.iconst 1, 1) := by decide +kernel
theorem dX11_happens_46 : decode cX11_happens 46 = .ok (.iload_n 2, 1) := by decide +kernel
theorem dX11_happens_47 : decode cX11_happens 47 = .ok (.ishl, 1) := by decide +kernel
theorem dX11_happens_48 : decode cX11_happens 48 = .ok (.ixor, 1) := by decide +kernel
theorem dX11_happens_49 : decode cX11_happens 49 = .ok (.iastore, 1) := by decide +kernel
theorem dX11_happens_50 : decode cX11_happens 50 = .ok (.iload 4, 2) := by decide +kernel
theorem dX11_happens_52 : decode cX11_happens 52 = .ok (.iconst 1, 1) := by decide +kernel
theorem dX11_happens_53 : decode cX11_happens 53 = .ok (.if_icmp .ne 12, 3) := by decide +kernel
theorem dX11_happens_56 : decode cX11_happens 56 = .ok (.aload_n 0, 1) := by decide +kernel
theorem dX11_happens_57 : decode cX11_happens 57 = .ok (.getfield 28, 3) := by decide +kernel
theorem dX11_happens_60 : decode cX11_happens 60 = .ok (.iconst 0, 1) := by decide +kernel
theorem dX11_happens_61 : decode cX11_happens 61 = .ok (.iload_n 2, 1) := by decide +kernel
theorem dX11_happens_62 : decode cX11_happens 62 = .ok (.iadd, 1) := by decide +kernel
theorem dX11_happens_63 : decode cX11_happens 63 = .ok (.iload_n 3, 1) := by decide +kernel
theorem dX11_happens_64 : decode cX11_happens 64 = .ok (.iastore, 1) := by decide +kernel
theorem dX11_happens_65 : decode cX11_happens 65 = .ok (.return_, 1) := by decide +kernel
theorem dX11_evenings_0 : decode cX11_evenings 0 = .ok (.iload_n 1, 1) := by decide +kernel
theorem dX11_evenings_1 : decode cX11_evenings 1 = .ok (.iconst 0, 1) := by decide +kernel
theorem dX11_evenings_2 : decode cX11_evenings 2 = .ok (.ldc 174, 2) := by decide +kernel
theorem dX11_evenings_4 : decode cX11_evenings 4 = .ok (.invokestatic 18, 3) := by decide +kernel
theorem dX11_evenings_7 : decode cX11_evenings 7 = .ok (.ifCond .eq 13, 3) := by decide +kernel
theorem dX11_evenings_10 : decode cX11_evenings 10 = .ok (.iload_n 2, 1) := by decide +kernel
theorem dX11_evenings_11 : decode cX11_evenings 11 = .ok (.iconst 1, 1) := by decide +kernel
theorem dX11_evenings_12 : decode cX11_evenings 12 = .ok (.bipush 60, 2) := by decide +kernel
theorem dX11_evenings_14 : decode cX11_evenings 14 = .ok (.invokestatic 18, 3) := by decide +kernel
theorem dX11_evenings_17 : decode cX11_evenings 17 = .ok (.ifCond .ne 9, 3) := by decide +kernel
theorem dX11_evenings_20 : decode cX11_evenings 20 = .ok (.aload_n 0, 1) := by decide +kernel
theorem dX11_evenings_21 : decode cX11_evenings 21 = .ok (.iconst (-1), 1) := by decide +kernel
theorem dX11_evenings_22 : decode cX11_evenings 22 = .ok (.invokevirtual 112, 3) := by decide +kernel
theorem dX11_evenings_25 : decode cX11_evenings 25 = .ok (.ireturn, 1) := by decide +kernel
theorem dX11_evenings_26 : decode cX11_evenings 26 = .ok (.aload_n 0, 1) := by decide +kernel
theorem dX11_evenings_27 : decode cX11_evenings 27 = .ok (.invokevirtual 118, 3) := by decide +kernel
theorem dX11_evenings_30 : decode cX11_evenings 30 = .ok (.ifCond .ne 10, 3) := by decide +kernel
theorem dX11_evenings_33 : decode cX11_evenings 33 = .ok (.aload_n 0, 1) := by decide +kernel
theorem dX11_evenings_34 : decode cX11_evenings 34 = .ok (.bipush (-3), 2) := by decide +kernel
theorem dX11_evenings_36 : decode cX11_evenings 36 = .ok (.invokevirtual 112, 3) := by decide +kernel
theorem dX11_evenings_39 : decode cX11_evenings 39 = .ok (.ireturn, 1) := by decide +kernel
theorem dX11_evenings_40 : decode cX11_evenings 40 = .ok (.aload_n 0, 1) := by decide +kernel
theorem dX11_evenings_41 : decode cX11_evenings 41 = .ok (.iload_n 1, 1) := by decide +kernel
theorem dX11_evenings_42 : decode cX11_evenings 42 = .ok (.putfield 464, 3) := by decide +kernel
theorem dX11_evenings_45 : decode cX11_evenings 45 = .ok (.aload_n 0, 1) := by decide +kernel
theorem dX11_evenings_46 : decode cX11_evenings 46 = .ok (.iconst 1, 1) := by decide +kernel
theorem dX11_evenings_47 : decode cX11_evenings 47 = .ok (.putfield 474, 3) := by decide +kernel
theorem dX11_evenings_50 : decode cX11_evenings 50 = .ok (.aload_n 0, 1) := by decide +kernel
theorem dX11_evenings_51 : decode cX11_evenings 51 = .ok (.iconst 0, 1) := by decide +kernel
theorem dX11_evenings_52 : decode cX11_evenings 52 = .ok (.invokevirtual 417, 3) := by decide +kernel
theorem dX11_evenings_55 : decode cX11_evenings 55 = .ok (.iconst 0, 1) := by decide +kernel
theorem dX11_evenings_56 : decode cX11_evenings 56 = .ok (.istore_n 3, 1) := by decide +kernel
theorem dX11_evenings_57 : decode cX11_evenings 57 = .ok (.iconst 0, 1) := by decide +kernel
theorem dX11_evenings_58 : decode cX11_evenings 58 = .ok (.istore 4, 2) := by decide +kernel
theorem dX11_evenings_60 : decode cX11_evenings 60 = .ok (.iload 4, 2) := by decide +kernel
theorem dX11_evenings_62 : decode cX11_evenings 62 = .ok (.iload_n 2, 1) := by decide +kernel
theorem dX11_evenings_63 : decode cX11_evenings 63 = .ok (.if_icmp .ge 54, 3) := by decide +kernel
theorem dX11_evenings_66 : decode cX11_evenings 66 = .ok (.aload_n 0, 1) := by decide +kernel
theorem dX11_evenings_67 : decode cX11_evenings 67 = .ok (.getfield 28, 3) := by decide +kernel
theorem dX11_evenings_70 : decode cX11_evenings 70 = .ok (.bipush 24, 2) := by decide +kernel
theorem dX11_evenings_72 : decode cX11_evenings 72 = .ok (.iaload, 1) := by decide +kernel
theorem dX11_evenings_73 : decode cX11_evenings 73 = .ok (.sipush 999, 3) := by decide +kernel
theorem dX11_evenings_76 : decode cX11_evenings 76 = .ok (.if_icmp .ge 41, 3) := by decide +kernel
theorem dX11_evenings_79 : decode cX11_evenings 79 = .ok (.aload_n 0, 1) := by decide +kernel
theorem dX11_evenings_80 : decode cX11_evenings 80 = .ok (.invokevirtual 477, 3) := by decide +kernel
theorem dX11_evenings_83 : decode cX11_evenings 83 = .ok (.aload_n 0, 1) := by decide +kernel
theorem dX11_evenings_84 : decode cX11_evenings 84 = .ok (.getfield 28, 3) := by decide +kernel
theorem dX11_evenings_87 : decode cX11_evenings 87 = .ok (.bipush 24, 2) := by decide +kernel
theorem dX11_evenings_89 : decode cX11_evenings 89 = .ok (.dup2, 1) := by decide +kernel
theorem dX11_evenings_90 : decode cX11_evenings 90 = .ok (.iaload, 1) := by decide +kernel
theorem dX11_evenings_91 : decode cX11_evenings 91 = .ok (.iconst 1, 1) := by decide +kernel
theorem dX11_evenings_92 : decode cX11_evenings 92 = .ok (.iadd, 1) := by decide +kernel
theorem dX11_evenings_93 : decode cX11_evenings 93 = .ok (.iastore, 1) := by decide +kernel
theorem dX11_evenings_94 : decode cX11_evenings 94 = .ok (.iload_n 3, 1) := by decide +kernel
theorem dX11_evenings_95 : decode cX11_evenings 95 = .ok (.aload_n 0, 1) := by decide +kernel
theorem dX11_evenings_96 : decode cX11_evenings 96 = .ok (.invokevirtual 432, 3) := by decide +kernel
theorem dX11_evenings_99 : decode cX11_evenings 99 = .ok (.bipush 16, 2) := by decide +kernel
theorem dX11_evenings_101 : decode cX11_evenings 101 = .ok (.if_icmp .ne 7, 3) := by decide +kernel
theorem dX11_evenings_104 : decode cX11_evenings 104 = .ok (.iconst 1, 1) := by decide +kernel
theorem dX11_evenings_105 : decode cX11_evenings 105 = .ok (.goto 4, 3) := by decide +kernel
theorem dX11_evenings_108 : decode cX11_evenings 108 = .ok (.iconst 0, 1) := by decide +kernel
theorem dX11_evenings_109 : decode cX11_evenings 109 = .ok (.iadd, 1) := by decide +kernel
theorem dX11_evenings_110 : decode cX11_evenings 110 = .ok (.istore_n 3, 1) := by decide +kernel
theorem dX11_evenings_111 : decode cX11_evenings 111 = .ok (.iinc 4 1, 3) := by decide +kernel
theorem dX11_evenings_114 : decode cX11_evenings 114 = .ok (.goto (-54), 3) := by decide +kernel
theorem dX11_evenings_117 : decode cX11_evenings 117 = .ok (.iconst 0, 1) := by decide +kernel
theorem dX11_evenings_118 : decode cX11_evenings 118 = .ok (.istore 4, 2) := by decide +kernel
theorem dX11_evenings_120 : decode cX11_evenings 120 = .ok (.iload 4, 2) := by decide +kernel
theorem dX11_evenings_122 : decode cX11_evenings 122 = .ok (.bipush 25, 2) := by decide +kernel
theorem dX11_evenings_124 : decode cX11_evenings 124 = .ok (.if_icmp .ge 23, 3) := by decide +kernel
theorem dX11_evenings_127 : decode cX11_evenings 127 = .ok (.aload_n 0, 1) := by decide +kernel
theorem dX11_evenings_128 : decode cX11_evenings 128 = .ok (.getfield 109, 3) := by decide +kernel
theorem dX11_evenings_131 : decode cX11_evenings 131 = .ok (.iload 4, 2) := by decide +kernel
theorem dX11_evenings_133 : decode cX11_evenings 133 = .ok (.aload_n 0, 1) := by decide +kernel
theorem dX11_evenings_134 : decode cX11_evenings 134 = .ok (.getfield 28, 3) := by decide +kernel
theorem dX11_evenings_137 : decode cX11_evenings 137 = .ok (.iload 4, 2) := by decide +kernel
theorem dX11_evenings_139 : decode cX11_evenings 139 = .ok (.iaload, 1) := by decide +kernel
theorem dX11_evenings_140 : decode cX11_evenings 140 = .ok (.iastore, 1) := by decide +kernel
theorem dX11_evenings_141 : decode cX11_evenings 141 = .ok (.iinc 4 1, 3) := by decide +kernel
theorem dX11_evenings_144 : decode cX11_evenings 144 = .ok (.goto (-24), 3) := by decide +kernel
theorem dX11_evenings_147 : decode cX11_evenings 147 = .ok (.aload_n 0, 1) := by decide +kernel
theorem dX11_evenings_148 : decode cX11_evenings 148 = .ok (.iconst 0, 1) := by decide +kernel
theorem dX11_evenings_149 : decode cX11_evenings 149 = .ok (.invokevirtual 426, 3) := by decide +kernel
theorem dX11_evenings_152 : decode cX11_evenings 152 = .ok (.aload_n 0, 1) := by decide +kernel
theorem dX11_evenings_153 : decode cX11_evenings 153 = .ok (.iload_n 3, 1) := by decide +kernel
theorem dX11_evenings_154 : decode cX11_evenings 154 = .ok (.invokevirtual 14, 3) := by decide +kernel
theorem dX11_evenings_157 : decode cX11_evenings 157 = .ok (.ireturn, 1) := by decide +kernel
theorem dX11_drawn_0 : decode cX11_drawn 0 = .ok (.aload_n 0, 1) := by decide +kernel
theorem dX11_drawn_1 : decode cX11_drawn 1 = .ok (.getfield 474, 3) := by decide +kernel
theorem dX11_drawn_4 : decode cX11_drawn 4 = .ok (.ifCond .eq 31, 3) := by decide +kernel
theorem dX11_drawn_7 : decode cX11_drawn 7 = .ok (.iload_n 2, 1) := by decide +kernel
theorem dX11_drawn_8 : decode cX11_drawn 8 = .ok (.iconst 0, 1) := by decide +kernel
theorem dX11_drawn_9 : decode cX11_drawn 9 = .ok (.iconst 1, 1) := by decide +kernel
theorem dX11_drawn_10 : decode cX11_drawn 10 = .ok (.invokestatic 18, 3) := by decide +kernel
theorem dX11_drawn_13 : decode cX11_drawn 13 = .ok (.ifCond .eq 22, 3) := by decide +kernel
theorem dX11_drawn_16 : decode cX11_drawn 16 = .ok (.iload_n 1, 1) := by decide +kernel
theorem dX11_drawn_17 : decode cX11_drawn 17 = .ok (.iconst 0, 1) := by decide +kernel
theorem dX11_drawn_18 : decode cX11_drawn 18 = .ok (.iload_n 2, 1) := by decide +kernel
theorem dX11_drawn_19 : decode cX11_drawn 19 = .ok (.ifCond .ne 8, 3) := by decide +kernel
theorem dX11_drawn_22 : decode cX11_drawn 22 = .ok (.bipush 15, 2) := by decide +kernel
theorem dX11_drawn_24 : decode cX11_drawn 24 = .ok (.goto 5, 3) := by decide +kernel
theorem dX11_drawn_27 : decode cX11_drawn 27 = .ok (.bipush 7, 2) := by decide +kernel
theorem dX11_drawn_29 : decode cX11_drawn 29 = .ok (.invokestatic 18, 3) := by decide +kernel
theorem dX11_drawn_32 : decode cX11_drawn 32 = .ok (.ifCond .ne 5, 3) := by decide +kernel
theorem dX11_drawn_35 : decode cX11_drawn 35 = .ok (.iconst (-1), 1) := by decide +kernel
theorem dX11_drawn_36 : decode cX11_drawn 36 = .ok (.ireturn, 1) := by decide +kernel
theorem dX11_drawn_37 : decode cX11_drawn 37 = .ok (.aload_n 0, 1) := by decide +kernel
theorem dX11_drawn_38 : decode cX11_drawn 38 = .ok (.getfield 109, 3) := by decide +kernel
theorem dX11_drawn_41 : decode cX11_drawn 41 = .ok (.iload_n 2, 1) := by decide +kernel
theorem dX11_drawn_42 : decode cX11_drawn 42 = .ok (.ifCond .ne 10, 3) := by decide +kernel
theorem dX11_drawn_45 : decode cX11_drawn 45 = .ok (.bipush 8, 2) := by decide +kernel
theorem dX11_drawn_47 : decode cX11_drawn 47 = .ok (.iload_n 1, 1) := by decide +kernel
theorem dX11_drawn_48 : decode cX11_drawn 48 = .ok (.iadd, 1) := by decide +kernel
theorem dX11_drawn_49 : decode cX11_drawn 49 = .ok (.goto 6, 3) := by decide +kernel
theorem dX11_drawn_52 : decode cX11_drawn 52 = .ok (.iconst 0, 1) := by decide +kernel
theorem dX11_drawn_53 : decode cX11_drawn 53 = .ok (.iload_n 1, 1) := by decide +kernel
theorem dX11_drawn_54 : decode cX11_drawn 54 = .ok (.iadd, 1) := by decide +kernel
theorem dX11_drawn_55 : decode cX11_drawn 55 = .ok (.iaload, 1) := by decide +kernel
theorem dX11_drawn_56 : decode cX11_drawn 56 = .ok (.ireturn, 1) := by decide +kernel
theorem dX11_count_0 : decode cX11_count 0 = .ok (.iload_n 1, 1) := by decide +kernel
theorem dX11_count_1 : decode cX11_count 1 = .ok (.tableswitch 156 0 14 #[75, 80, 85, 93, 101, 106, 111, 111, 111, 120, 127, 135, 143, 143, 143], 75) := by decide +kernel
theorem dX11_count_76 : decode cX11_count 76 = .ok (.aload_n 0, 1) := by decide +kernel
theorem dX11_count_77 : decode cX11_count 77 = .ok (.invokevirtual 118, 3) := by decide +kernel
theorem dX11_count_80 : decode cX11_count 80 = .ok (.ireturn, 1) := by decide +kernel
theorem dX11_count_81 : decode cX11_count 81 = .ok (.aload_n 0, 1) := by decide +kernel
theorem dX11_count_82 : decode cX11_count 82 = .ok (.invokevirtual 310, 3) := by decide +kernel
theorem dX11_count_85 : decode cX11_count 85 = .ok (.ireturn, 1) := by decide +kernel
theorem dX11_count_86 : decode cX11_count 86 = .ok (.aload_n 0, 1) := by decide +kernel
theorem dX11_count_87 : decode cX11_count 87 = .ok (.getfield 28, 3) := by decide +kernel
theorem dX11_count_90 : decode cX11_count 90 = .ok (.bipush 46, 2) := by decide +kernel
theorem dX11_count_92 : decode cX11_count 92 = .ok (.iaload, 1) := by decide +kernel
theorem dX11_count_93 : decode cX11_count 93 = .ok (.ireturn, 1) := by decide +kernel
theorem dX11_count_94 : decode cX11_count 94 = .ok (.aload_n 0, 1) := by decide +kernel
theorem dX11_count_95 : decode cX11_count 95 = .ok (.getfield 28, 3) := by decide +kernel
theorem dX11_count_98 : decode cX11_count 98 = .ok (.bipush 47, 2) := by decide +kernel
theorem dX11_count_100 : decode cX11_count 100 = .ok (.iaload, 1) := by decide +kernel
theorem dX11_count_101 : decode cX11_count 101 = .ok (.ireturn, 1) := by decide +kernel
theorem dX11_count_102 : decode cX11_count 102 = .ok (.aload_n 0, 1) := by decide +kernel
theorem dX11_count_103 : decode cX11_count 103 = .ok (.getfield 11, 3) := by decide +kernel
theorem dX11_count_106 : decode cX11_count 106 = .ok (.ireturn, 1) := by decide +kernel
theorem dX11_count_107 : decode cX11_count 107 = .ok (.aload_n 0, 1) := by decide +kernel
theorem dX11_count_108 : decode cX11_count 108 = .ok (.getfield 155, 3) := by decide +kernel
theorem dX11_count_111 : decode cX11_count 111 = .ok (.ireturn, 1) := by decide +kernel
theorem dX11_count_112 : decode cX11_count 112 = .ok (.aload_n 0, 1) := by decide +kernel
theorem dX11_count_113 : decode cX11_count 113 = .ok (.getfield 7, 3) := by decide +kernel
theorem dX11_count_116 : decode cX11_count 116 = .ok (.iload_n 1, 1) := by decide +kernel
theorem dX11_count_117 : decode cX11_count 117 = .ok (.iconst 5, 1) := by decide +kernel
theorem dX11_count_118 : decode cX11_count 118 = .ok (.isub, 1) := by decide +kernel
theorem dX11_count_119 : decode cX11_count 119 = .ok (.iaload, 1) := by decide +kernel
theorem dX11_count_120 : decode cX11_count 120 = .ok (.ireturn, 1) := by decide +kernel
theorem dX11_count_121 : decode cX11_count 121 = .ok (.aload_n 0, 1) := by decide +kernel
theorem dX11_count_122 : decode cX11_count 122 = .ok (.getfield 7, 3) := by decide +kernel
theorem dX11_count_125 : decode cX11_count 125 = .ok (.iconst 5, 1) := by decide +kernel
theorem dX11_count_126 : decode cX11_count 126 = .ok (.iaload, 1) := by decide +kernel
theorem dX11_count_127 : decode cX11_count 127 = .ok (.ireturn, 1) := by decide +kernel
theorem dX11_count_128 : decode cX11_count 128 = .ok (.aload_n 0, 1) := by decide +kernel
theorem dX11_count_129 : decode cX11_count 129 = .ok (.getfield 7, 3) := by decide +kernel
theorem dX11_count_132 : decode cX11_count 132 = .ok (.bipush 6, 2) := by decide +kernel
theorem dX11_count_134 : decode cX11_count 134 = .ok (.iaload, 1) := by decide +kernel
theorem dX11_count_135 : decode cX11_count 135 = .ok (.ireturn, 1) := by decide +kernel
theorem dX11_count_136 : decode cX11_count 136 = .ok (.aload_n 0, 1) := by decide +kernel
theorem dX11_count_137 : decode cX11_count 137 = .ok (.getfield 28, 3) := by decide +kernel
theorem dX11_count_140 : decode cX11_count 140 = .ok (.bipush 48, 2) := by decide +kernel
theorem dX11_count_142 : decode cX11_count 142 = .ok (.iaload, 1) := by decide +kernel
theorem dX11_count_143 : decode cX11_count 143 = .ok (.ireturn, 1) := by decide +kernel
theorem dX11_count_144 : decode cX11_count 144 = .ok (.aload_n 0, 1) := by decide +kernel
theorem dX11_count_145 : decode cX11_count 145 = .ok (.getfield 28, 3) := by decide +kernel
theorem dX11_count_148 : decode cX11_count 148 = .ok (.iload_n 1, 1) := by decide +kernel
theorem dX11_count_149 : decode cX11_count 149 = .ok (.bipush 12, 2) := by decide +kernel
theorem dX11_count_151 : decode cX11_count 151 = .ok (.isub, 1) := by decide +kernel
theorem dX11_count_152 : decode cX11_count 152 = .ok (.invokestatic 152, 3) := by decide +kernel
theorem dX11_count_155 : decode cX11_count 155 = .ok (.iaload, 1) := by decide +kernel
theorem dX11_count_156 : decode cX11_count 156 = .ok (.ireturn, 1) := by decide +kernel
theorem dX11_count_157 : decode cX11_count 157 = .ok (.iconst (-1), 1) := by decide +kernel
theorem dX11_count_158 : decode cX11_count 158 = .ok (.ireturn, 1) := by decide +kernel
theorem dX11_status_0 : decode cX11_status 0 = .ok (.aload_n 0, 1) := by decide +kernel
theorem dX11_status_1 : decode cX11_status 1 = .ok (.getfield 3, 3) := by decide +kernel
theorem dX11_status_4 : decode cX11_status 4 = .ok (.ireturn, 1) := by decide +kernel
