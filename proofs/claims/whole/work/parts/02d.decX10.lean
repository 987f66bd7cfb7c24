/-! decode rows -/
theorem dX10_house_0 : decode cX10_house 0 = .ok (.iload_n 1, 1) := by decide +kernel
theorem dX10_house_1 : decode cX10_house 1 = .ok (.iconst 1, 1) := by decide +kernel
theorem dX10_house_2 : decode cX10_house 2 = .ok (.if_icmp .lt 19, 3) := by decide +kernel
theorem dX10_house_5 : decode cX10_house 5 = .ok (.iload_n 1, 1) := by decide +kernel
theorem dX10_house_6 : decode cX10_house 6 = .ok (.bipush 8, 2) := by decide +kernel
theorem dX10_house_8 : decode cX10_house 8 = .ok (.if_icmp .gt 13, 3) := by decide +kernel
theorem dX10_house_11 : decode cX10_house 11 = .ok (.iload_n 2, 1) := by decide +kernel
theorem dX10_house_12 : decode cX10_house 12 = .ok (.ifCond .lt 9, 3) := by decide +kernel
theorem dX10_house_15 : decode cX10_house 15 = .ok (.iload_n 2, 1) := by decide +kernel
theorem dX10_house_16 : decode cX10_house 16 = .ok (.bipush 7, 2) := by decide +kernel
theorem dX10_house_18 : decode cX10_house 18 = .ok (.if_icmp .le 9, 3) := by decide +kernel
theorem dX10_house_21 : decode cX10_house 21 = .ok (.aload_n 0, 1) := by decide +kernel
theorem dX10_house_22 : decode cX10_house 22 = .ok (.iconst (-1), 1) := by decide +kernel
theorem dX10_house_23 : decode cX10_house 23 = .ok (.invokevirtual 91, 3) := by decide +kernel
theorem dX10_house_26 : decode cX10_house 26 = .ok (.ireturn, 1) := by decide +kernel
theorem dX10_house_27 : decode cX10_house 27 = .ok (.aload_n 0, 1) := by decide +kernel
theorem dX10_house_28 : decode cX10_house 28 = .ok (.getfield 12, 3) := by decide +kernel
theorem dX10_house_31 : decode cX10_house 31 = .ok (.getfield 95, 3) := by decide +kernel
theorem dX10_house_34 : decode cX10_house 34 = .ok (.bipush 6, 2) := by decide +kernel
theorem dX10_house_36 : decode cX10_house 36 = .ok (.if_icmp .lt 10, 3) := by decide +kernel
theorem dX10_house_39 : decode cX10_house 39 = .ok (.aload_n 0, 1) := by decide +kernel
theorem dX10_house_40 : decode cX10_house 40 = .ok (.bipush (-5), 2) := by decide +kernel
theorem dX10_house_42 : decode cX10_house 42 = .ok (.invokevirtual 91, 3) := by decide +kernel
theorem dX10_house_45 : decode cX10_house 45 = .ok (.ireturn, 1) := by decide +kernel
theorem dX10_house_46 : decode cX10_house 46 = .ok (.aload_n 0, 1) := by decide +kernel
theorem dX10_house_47 : decode cX10_house 47 = .ok (.getfield 12, 3) := by decide +kernel
theorem dX10_house_50 : decode cX10_house 50 = .ok (.getfield 99, 3) := by decide +kernel
theorem dX10_house_53 : decode cX10_house 53 = .ok (.aload_n 0, 1) := by decide +kernel
theorem dX10_house_54 : decode cX10_house 54 = .ok (.getfield 12, 3) := by decide +kernel
theorem dX10_house_57 : decode cX10_house 57 = .ok (.getfield 95, 3) := by decide +kernel
theorem dX10_house_60 : decode cX10_house 60 = .ok (.iload_n 1, 1) := by decide +kernel
theorem dX10_house_61 : decode cX10_house 61 = .ok (.iastore, 1) := by decide +kernel
theorem dX10_house_62 : decode cX10_house 62 = .ok (.aload_n 0, 1) := by decide +kernel
theorem dX10_house_63 : decode cX10_house 63 = .ok (.getfield 12, 3) := by decide +kernel
theorem dX10_house_66 : decode cX10_house 66 = .ok (.getfield 102, 3) := by decide +kernel
theorem dX10_house_69 : decode cX10_house 69 = .ok (.aload_n 0, 1) := by decide +kernel
theorem dX10_house_70 : decode cX10_house 70 = .ok (.getfield 12, 3) := by decide +kernel
theorem dX10_house_73 : decode cX10_house 73 = .ok (.getfield 95, 3) := by decide +kernel
theorem dX10_house_76 : decode cX10_house 76 = .ok (.iload_n 2, 1) := by decide +kernel
theorem dX10_house_77 : decode cX10_house 77 = .ok (.iastore, 1) := by decide +kernel
theorem dX10_house_78 : decode cX10_house 78 = .ok (.aload_n 0, 1) := by decide +kernel
theorem dX10_house_79 : decode cX10_house 79 = .ok (.getfield 12, 3) := by decide +kernel
theorem dX10_house_82 : decode cX10_house 82 = .ok (.dup, 1) := by decide +kernel
theorem dX10_house_83 : decode cX10_house 83 = .ok (.getfield 95, 3) := by decide +kernel
theorem dX10_house_86 : decode cX10_house 86 = .ok (.iconst 1, 1) := by decide +kernel
theorem dX10_house_87 : decode cX10_house 87 = .ok (.iadd, 1) := by decide +kernel
theorem dX10_house_88 : decode cX10_house 88 = .ok (.putfield 95, 3) := by decide +kernel
theorem dX10_house_91 : decode cX10_house 91 = .ok (.aload_n 0, 1) := by decide +kernel
theorem dX10_house_92 : decode cX10_house 92 = .ok (.getfield 72, 3) := by decide +kernel
theorem dX10_house_95 : decode cX10_house 95 = .ok (.invokevirtual 105, 3) := by decide +kernel
theorem dX10_house_98 : decode cX10_house 98 = .ok (.aload_n 0, 1) := by decide +kernel
theorem dX10_house_99 : decode cX10_house 99 = .ok (.aload_n 0, 1) := by decide +kernel
theorem dX10_house_100 : decode cX10_house 100 = .ok (.getfield 12, 3) := by decide +kernel
theorem dX10_house_103 : decode cX10_house 103 = .ok (.getfield 95, 3) := by decide +kernel
theorem dX10_house_106 : decode cX10_house 106 = .ok (.iconst 1, 1) := by decide +kernel
theorem dX10_house_107 : decode cX10_house 107 = .ok (.isub, 1) := by decide +kernel
theorem dX10_house_108 : decode cX10_house 108 = .ok (.invokevirtual 108, 3) := by decide +kernel
theorem dX10_house_111 : decode cX10_house 111 = .ok (.ireturn, 1) := by decide +kernel
theorem dX10_of_0 : decode cX10_of 0 = .ok (.aload_n 0, 1) := by decide +kernel
theorem dX10_of_1 : decode cX10_of 1 = .ok (.getfield 12, 3) := by decide +kernel
theorem dX10_of_4 : decode cX10_of 4 = .ok (.iload_n 1, 1) := by decide +kernel
theorem dX10_of_5 : decode cX10_of 5 = .ok (.invokevirtual 111, 3) := by decide +kernel
theorem dX10_of_8 : decode cX10_of 8 = .ok (.ifCond .ne 5, 3) := by decide +kernel
theorem dX10_of_11 : decode cX10_of 11 = .ok (.iconst (-1), 1) := by decide +kernel
theorem dX10_of_12 : decode cX10_of 12 = .ok (.ireturn, 1) := by decide +kernel
theorem dX10_of_13 : decode cX10_of 13 = .ok (.iload_n 2, 1) := by decide +kernel
theorem dX10_of_14 : decode cX10_of 14 = .ok (.tableswitch 55 0 2 #[26, 36, 46], 26) := by decide +kernel
theorem dX10_of_40 : decode cX10_of 40 = .ok (.aload_n 0, 1) := by decide +kernel
theorem dX10_of_41 : decode cX10_of 41 = .ok (.getfield 12, 3) := by decide +kernel
theorem dX10_of_44 : decode cX10_of 44 = .ok (.getfield 99, 3) := by decide +kernel
theorem dX10_of_47 : decode cX10_of 47 = .ok (.iload_n 1, 1) := by decide +kernel
theorem dX10_of_48 : decode cX10_of 48 = .ok (.iaload, 1) := by decide +kernel
theorem dX10_of_49 : decode cX10_of 49 = .ok (.ireturn, 1) := by decide +kernel
theorem dX10_of_50 : decode cX10_of 50 = .ok (.aload_n 0, 1) := by decide +kernel
theorem dX10_of_51 : decode cX10_of 51 = .ok (.getfield 12, 3) := by decide +kernel
theorem dX10_of_54 : decode cX10_of 54 = .ok (.getfield 102, 3) := by decide +kernel
theorem dX10_of_57 : decode cX10_of 57 = .ok (.iload_n 1, 1) := by decide +kernel
theorem dX10_of_58 : decode cX10_of 58 = .ok (.iaload, 1) := by decide +kernel
theorem dX10_of_59 : decode cX10_of 59 = .ok (.ireturn, 1) := by decide +kernel
theorem dX10_of_60 : decode cX10_of 60 = .ok (.aload_n 0, 1) := by decide +kernel
theorem dX10_of_61 : decode cX10_of 61 = .ok (.getfield 12, 3) := by decide +kernel
theorem dX10_of_64 : decode cX10_of 64 = .ok (.iload_n 1, 1) := by decide +kernel
theorem dX10_of_65 : decode cX10_of 65 = .ok (.invokevirtual 115, 3) := by decide +kernel
theorem dX10_of_68 : decode cX10_of 68 = .ok (.ireturn, 1) := by decide +kernel
theorem dX10_of_69 : decode cX10_of 69 = .ok (.iconst (-1), 1) := by decide +kernel
theorem dX10_of_70 : decode cX10_of 70 = .ok (.ireturn, 1) := by decide +kernel
theorem dX10_owner_0 : decode cX10_owner 0 = .ok (.iload_n 1, 1) := by decide +kernel
theorem dX10_owner_1 : decode cX10_owner 1 = .ok (.invokestatic 118, 3) := by decide +kernel
theorem dX10_owner_4 : decode cX10_owner 4 = .ok (.ifCond .eq 15, 3) := by decide +kernel
theorem dX10_owner_7 : decode cX10_owner 7 = .ok (.aload_n 0, 1) := by decide +kernel
theorem dX10_owner_8 : decode cX10_owner 8 = .ok (.getfield 12, 3) := by decide +kernel
theorem dX10_owner_11 : decode cX10_owner 11 = .ok (.getfield 121, 3) := by decide +kernel
theorem dX10_owner_14 : decode cX10_owner 14 = .ok (.iload_n 1, 1) := by decide +kernel
theorem dX10_owner_15 : decode cX10_owner 15 = .ok (.iaload, 1) := by decide +kernel
theorem dX10_owner_16 : decode cX10_owner 16 = .ok (.goto 4, 3) := by decide +kernel
theorem dX10_owner_19 : decode cX10_owner 19 = .ok (.iconst (-1), 1) := by decide +kernel
theorem dX10_owner_20 : decode cX10_owner 20 = .ok (.ireturn, 1) := by decide +kernel
theorem dX10_music_0 : decode cX10_music 0 = .ok (.iload_n 1, 1) := by decide +kernel
theorem dX10_music_1 : decode cX10_music 1 = .ok (.invokestatic 124, 3) := by decide +kernel
theorem dX10_music_4 : decode cX10_music 4 = .ok (.ifCond .eq 15, 3) := by decide +kernel
theorem dX10_music_7 : decode cX10_music 7 = .ok (.aload_n 0, 1) := by decide +kernel
theorem dX10_music_8 : decode cX10_music 8 = .ok (.getfield 12, 3) := by decide +kernel
theorem dX10_music_11 : decode cX10_music 11 = .ok (.getfield 127, 3) := by decide +kernel
theorem dX10_music_14 : decode cX10_music 14 = .ok (.iload_n 1, 1) := by decide +kernel
theorem dX10_music_15 : decode cX10_music 15 = .ok (.iaload, 1) := by decide +kernel
theorem dX10_music_16 : decode cX10_music 16 = .ok (.goto 4, 3) := by decide +kernel
theorem dX10_music_19 : decode cX10_music 19 = .ok (.iconst (-1), 1) := by decide +kernel
theorem dX10_music_20 : decode cX10_music 20 = .ok (.ireturn, 1) := by decide +kernel
theorem dX10_asks_0 : decode cX10_asks 0 = .ok (.aload_n 0, 1) := by decide +kernel
theorem dX10_asks_1 : decode cX10_asks 1 = .ok (.getfield 12, 3) := by decide +kernel
theorem dX10_asks_4 : decode cX10_asks 4 = .ok (.iload_n 1, 1) := by decide +kernel
theorem dX10_asks_5 : decode cX10_asks 5 = .ok (.invokevirtual 111, 3) := by decide +kernel
theorem dX10_asks_8 : decode cX10_asks 8 = .ok (.ifCond .eq 28, 3) := by decide +kernel
theorem dX10_asks_11 : decode cX10_asks 11 = .ok (.iload_n 2, 1) := by decide +kernel
theorem dX10_asks_12 : decode cX10_asks 12 = .ok (.invokestatic 118, 3) := by decide +kernel
theorem dX10_asks_15 : decode cX10_asks 15 = .ok (.ifCond .eq 21, 3) := by decide +kernel
theorem dX10_asks_18 : decode cX10_asks 18 = .ok (.iload_n 3, 1) := by decide +kernel
theorem dX10_asks_19 : decode cX10_asks 19 = .ok (.invokestatic 124, 3) := by decide +kernel
theorem dX10_asks_22 : decode cX10_asks 22 = .ok (.ifCond .eq 14, 3) := by decide +kernel
theorem dX10_asks_25 : decode cX10_asks 25 = .ok (.iload 4, 2) := by decide +kernel
theorem dX10_asks_27 : decode cX10_asks 27 = .ok (.ifCond .lt 9, 3) := by decide +kernel
theorem dX10_asks_30 : decode cX10_asks 30 = .ok (.iload 4, 2) := by decide +kernel
theorem dX10_asks_32 : decode cX10_asks 32 = .ok (.iconst 1, 1) := by decide +kernel
theorem dX10_asks_33 : decode cX10_asks 33 = .ok (.if_icmp .le 5, 3) := by decide +kernel
theorem dX10_asks_36 : decode cX10_asks 36 = .ok (.iconst (-1), 1) := by decide +kernel
theorem dX10_asks_37 : decode cX10_asks 37 = .ok (.ireturn, 1) := by decide +kernel
theorem dX10_asks_38 : decode cX10_asks 38 = .ok (.aload_n 0, 1) := by decide +kernel
theorem dX10_asks_39 : decode cX10_asks 39 = .ok (.getfield 49, 3) := by decide +kernel
theorem dX10_asks_42 : decode cX10_asks 42 = .ok (.aload_n 0, 1) := by decide +kernel
theorem dX10_asks_43 : decode cX10_asks 43 = .ok (.getfield 12, 3) := by decide +kernel
theorem dX10_asks_46 : decode cX10_asks 46 = .ok (.iload_n 1, 1) := by decide +kernel
theorem dX10_asks_47 : decode cX10_asks 47 = .ok (.iload_n 2, 1) := by decide +kernel
theorem dX10_asks_48 : decode cX10_asks 48 = .ok (.iload_n 3, 1) := by decide +kernel
theorem dX10_asks_49 : decode cX10_asks 49 = .ok (.iconst 1, 1) := by decide +kernel
theorem dX10_asks_50 : decode cX10_asks 50 = .ok (.invokevirtual 130, 3) := by decide +kernel
theorem dX10_asks_53 : decode cX10_asks 53 = .ok (.iload 4, 2) := by decide +kernel
theorem dX10_asks_55 : decode cX10_asks 55 = .ok (.ifCond .ne 11, 3) := by decide +kernel
theorem dX10_asks_58 : decode cX10_asks 58 = .ok (.aload_n 0, 1) := by decide +kernel
theorem dX10_asks_59 : decode cX10_asks 59 = .ok (.getfield 49, 3) := by decide +kernel
theorem dX10_asks_62 : decode cX10_asks 62 = .ok (.getfield 134, 3) := by decide +kernel
theorem dX10_asks_65 : decode cX10_asks 65 = .ok (.ireturn, 1) := by decide +kernel
theorem dX10_asks_66 : decode cX10_asks 66 = .ok (.aload_n 0, 1) := by decide +kernel
theorem dX10_asks_67 : decode cX10_asks 67 = .ok (.getfield 49, 3) := by decide +kernel
theorem dX10_asks_70 : decode cX10_asks 70 = .ok (.getfield 137, 3) := by decide +kernel
theorem dX10_asks_73 : decode cX10_asks 73 = .ok (.ifCond .eq 7, 3) := by decide +kernel
theorem dX10_asks_76 : decode cX10_asks 76 = .ok (.iconst 1, 1) := by decide +kernel
theorem dX10_asks_77 : decode cX10_asks 77 = .ok (.goto 4, 3) := by decide +kernel
theorem dX10_asks_80 : decode cX10_asks 80 = .ok (.iconst 0, 1) := by decide +kernel
theorem dX10_asks_81 : decode cX10_asks 81 = .ok (.ireturn, 1) := by decide +kernel
theorem dX10_terms_0 : decode cX10_terms 0 = .ok (.iload_n 1, 1) := by decide +kernel
theorem dX10_terms_1 : decode cX10_terms 1 = .ok (.ifCond .lt 20, 3) := by decide +kernel
theorem dX10_terms_4 : decode cX10_terms 4 = .ok (.iload_n 1, 1) := by decide +kernel
theorem dX10_terms_5 : decode cX10_terms 5 = .ok (.iconst 2, 1) := by decide +kernel
theorem dX10_terms_6 : decode cX10_terms 6 = .ok (.if_icmp .gt 15, 3) := by decide +kernel
theorem dX10_terms_9 : decode cX10_terms 9 = .ok (.iload_n 2, 1) := by decide +kernel
theorem dX10_terms_10 : decode cX10_terms 10 = .ok (.ifCond .lt 11, 3) := by decide +kernel
theorem dX10_terms_13 : decode cX10_terms 13 = .ok (.iload_n 2, 1) := by decide +kernel
theorem dX10_terms_14 : decode cX10_terms 14 = .ok (.iload_n 1, 1) := by decide +kernel
theorem dX10_terms_15 : decode cX10_terms 15 = .ok (.invokestatic 141, 3) := by decide +kernel
theorem dX10_terms_18 : decode cX10_terms 18 = .ok (.if_icmp .le 9, 3) := by decide +kernel
theorem dX10_terms_21 : decode cX10_terms 21 = .ok (.aload_n 0, 1) := by decide +kernel
theorem dX10_terms_22 : decode cX10_terms 22 = .ok (.iconst (-1), 1) := by decide +kernel
theorem dX10_terms_23 : decode cX10_terms 23 = .ok (.invokevirtual 91, 3) := by decide +kernel
theorem dX10_terms_26 : decode cX10_terms 26 = .ok (.ireturn, 1) := by decide +kernel
theorem dX10_terms_27 : decode cX10_terms 27 = .ok (.aload_n 0, 1) := by decide +kernel
theorem dX10_terms_28 : decode cX10_terms 28 = .ok (.getfield 12, 3) := by decide +kernel
theorem dX10_terms_31 : decode cX10_terms 31 = .ok (.getfield 144, 3) := by decide +kernel
theorem dX10_terms_34 : decode cX10_terms 34 = .ok (.iload_n 1, 1) := by decide +kernel
theorem dX10_terms_35 : decode cX10_terms 35 = .ok (.iaload, 1) := by decide +kernel
theorem dX10_terms_36 : decode cX10_terms 36 = .ok (.istore_n 3, 1) := by decide +kernel
theorem dX10_terms_37 : decode cX10_terms 37 = .ok (.aload_n 0, 1) := by decide +kernel
theorem dX10_terms_38 : decode cX10_terms 38 = .ok (.getfield 12, 3) := by decide +kernel
theorem dX10_terms_41 : decode cX10_terms 41 = .ok (.getfield 144, 3) := by decide +kernel
theorem dX10_terms_44 : decode cX10_terms 44 = .ok (.iload_n 1, 1) := by decide +kernel
theorem dX10_terms_45 : decode cX10_terms 45 = .ok (.iload_n 2, 1) := by decide +kernel
theorem dX10_terms_46 : decode cX10_terms 46 = .ok (.iastore, 1) := by decide +kernel
theorem dX10_terms_47 : decode cX10_terms 47 = .ok (.aload_n 0, 1) := by decide +kernel
theorem dX10_terms_48 : decode cX10_terms 48 = .ok (.getfield 72, 3) := by decide +kernel
theorem dX10_terms_51 : decode cX10_terms 51 = .ok (.invokevirtual 105, 3) := by decide +kernel
theorem dX10_terms_54 : decode cX10_terms 54 = .ok (.aload_n 0, 1) := by decide +kernel
theorem dX10_terms_55 : decode cX10_terms 55 = .ok (.iload_n 3, 1) := by decide +kernel
theorem dX10_terms_56 : decode cX10_terms 56 = .ok (.invokevirtual 108, 3) := by decide +kernel
theorem dX10_terms_59 : decode cX10_terms 59 = .ok (.ireturn, 1) := by decide +kernel
theorem dX10_feed_0 : decode cX10_feed 0 = .ok (.aload_n 0, 1) := by decide +kernel
theorem dX10_feed_1 : decode cX10_feed 1 = .ok (.getfield 33, 3) := by decide +kernel
theorem dX10_feed_4 : decode cX10_feed 4 = .ok (.getfield 147, 3) := by decide +kernel
theorem dX10_feed_7 : decode cX10_feed 7 = .ok (.bipush 20, 2) := by decide +kernel
theorem dX10_feed_9 : decode cX10_feed 9 = .ok (.iadd, 1) := by decide +kernel
theorem dX10_feed_10 : decode cX10_feed 10 = .ok (.sipush 400, 3) := by decide +kernel
theorem dX10_feed_13 : decode cX10_feed 13 = .ok (.if_icmp .le 5, 3) := by decide +kernel
theorem dX10_feed_16 : decode cX10_feed 16 = .ok (.iconst (-1), 1) := by decide +kernel
theorem dX10_feed_17 : decode cX10_feed 17 = .ok (.ireturn, 1) := by decide +kernel
theorem dX10_feed_18 : decode cX10_feed 18 = .ok (.aload_n 0, 1) := by decide +kernel
theorem dX10_feed_19 : decode cX10_feed 19 = .ok (.getfield 33, 3) := by decide +kernel
theorem dX10_feed_22 : decode cX10_feed 22 = .ok (.iload_n 1, 1) := by decide +kernel
theorem dX10_feed_23 : decode cX10_feed 23 = .ok (.invokevirtual 150, 3) := by decide +kernel
theorem dX10_feed_26 : decode cX10_feed 26 = .ok (.aload_n 0, 1) := by decide +kernel
theorem dX10_feed_27 : decode cX10_feed 27 = .ok (.getfield 33, 3) := by decide +kernel
theorem dX10_feed_30 : decode cX10_feed 30 = .ok (.iload_n 2, 1) := by decide +kernel
theorem dX10_feed_31 : decode cX10_feed 31 = .ok (.invokevirtual 150, 3) := by decide +kernel
theorem dX10_feed_34 : decode cX10_feed 34 = .ok (.aload_n 0, 1) := by decide +kernel
theorem dX10_feed_35 : decode cX10_feed 35 = .ok (.getfield 33, 3) := by decide +kernel
theorem dX10_feed_38 : decode cX10_feed 38 = .ok (.iload_n 3, 1) := by decide +kernel
theorem dX10_feed_39 : decode cX10_feed 39 = .ok (.invokevirtual 150, 3) := by decide +kernel
theorem dX10_feed_42 : decode cX10_feed 42 = .ok (.aload_n 0, 1) := by decide +kernel
theorem dX10_feed_43 : decode cX10_feed 43 = .ok (.getfield 33, 3) := by decide +kernel
theorem dX10_feed_46 : decode cX10_feed 46 = .ok (.iload 4, 2) := by decide +kernel
theorem dX10_feed_48 : decode cX10_feed 48 = .ok (.invokevirtual 150, 3) := by decide +kernel
theorem dX10_feed_51 : decode cX10_feed 51 = .ok (.aload_n 0, 1) := by decide +kernel
theorem dX10_feed_52 : decode cX10_feed 52 = .ok (.getfield 33, 3) := by decide +kernel
theorem dX10_feed_55 : decode cX10_feed 55 = .ok (.iload 5, 2) := by decide +kernel
theorem dX10_feed_57 : decode cX10_feed 57 = .ok (.invokevirtual 150, 3) := by decide +kernel
theorem dX10_feed_60 : decode cX10_feed 60 = .ok (.aload_n 0, 1) := by decide +kernel
theorem dX10_feed_61 : decode cX10_feed 61 = .ok (.getfield 33, 3) := by decide +kernel
theorem dX10_feed_64 : decode cX10_feed 64 = .ok (.getfield 147, 3) := by decide +kernel
theorem dX10_feed_67 : decode cX10_feed 67 = .ok (.ireturn, 1) := by decide +kernel
theorem dX10_end_0 : decode cX10_end 0 = .ok (.iload_n 1, 1) := by decide +kernel
theorem dX10_end_1 : decode cX10_end 1 = .ok (.ifCond .lt 14, 3) := by decide +kernel
theorem dX10_end_4 : decode cX10_end 4 = .ok (.iload_n 1, 1) := by decide +kernel
theorem dX10_end_5 : decode cX10_end 5 = .ok (.aload_n 0, 1) := by decide +kernel
theorem dX10_end_6 : decode cX10_end 6 = .ok (.getfield 33, 3) := by decide +kernel
theorem dX10_end_9 : decode cX10_end 9 = .ok (.getfield 147, 3) := by decide +kernel
theorem dX10_end_12 : decode cX10_end 12 = .ok (.if_icmp .le 5, 3) := by decide +kernel
theorem dX10_end_15 : decode cX10_end 15 = .ok (.iconst (-1), 1) := by decide +kernel
theorem dX10_end_16 : decode cX10_end 16 = .ok (.ireturn, 1) := by decide +kernel
theorem dX10_end_17 : decode cX10_end 17 = .ok (.aload_n 0, 1) := by decide +kernel
theorem dX10_end_18 : decode cX10_end 18 = .ok (.getfield 33, 3) := by decide +kernel
theorem dX10_end_21 : decode cX10_end 21 = .ok (.iload_n 1, 1) := by decide +kernel
theorem dX10_end_22 : decode cX10_end 22 = .ok (.putfield 147, 3) := by decide +kernel
theorem dX10_end_25 : decode cX10_end 25 = .ok (.iload_n 1, 1) := by decide +kernel
theorem dX10_end_26 : decode cX10_end 26 = .ok (.ireturn, 1) := by decide +kernel
theorem dX10_row_0 : decode cX10_row 0 = .ok (.aload_n 0, 1) := by decide +kernel
theorem dX10_row_1 : decode cX10_row 1 = .ok (.getfield 33, 3) := by decide +kernel
theorem dX10_row_4 : decode cX10_row 4 = .ok (.getfield 147, 3) := by decide +kernel
theorem dX10_row_7 : decode cX10_row 7 = .ok (.ifCond .ne 10, 3) := by decide +kernel
theorem dX10_row_10 : decode cX10_row 10 = .ok (.aload_n 0, 1) := by decide +kernel
theorem dX10_row_11 : decode cX10_row 11 = .ok (.bipush (-6), 2) := by decide +kernel
theorem dX10_row_13 : decode cX10_row 13 = .ok (.invokevirtual 91, 3) := by decide +kernel
theorem dX10_row_16 : decode cX10_row 16 = .ok (.ireturn, 1) := by decide +kernel
theorem dX10_row_17 : decode cX10_row 17 = .ok (.iconst 0, 1) := by decide +kernel
theorem dX10_row_18 : decode cX10_row 18 = .ok (.istore_n 1, 1) := by decide +kernel
theorem dX10_row_19 : decode cX10_row 19 = .ok (.aload_n 0, 1) := by decide +kernel
theorem dX10_row_20 : decode cX10_row 20 = .ok (.iconst 0, 1) := by decide +kernel
theorem dX10_row_21 : decode cX10_row 21 = .ok (.putfield 154, 3) := by decide +kernel
theorem dX10_row_24 : decode cX10_row 24 = .ok (.iconst 0, 1) := by decide +kernel
theorem dX10_row_25 : decode cX10_row 25 = .ok (.istore_n 2, 1) := by decide +kernel
theorem dX10_row_26 : decode cX10_row 26 = .ok (.iload_n 2, 1) := by decide +kernel
theorem dX10_row_27 : decode cX10_row 27 = .ok (.aload_n 0, 1) := by decide +kernel
theorem dX10_row_28 : decode cX10_row 28 = .ok (.getfield 33, 3) := by decide +kernel
theorem dX10_row_31 : decode cX10_row 31 = .ok (.getfield 147, 3) := by decide +kernel
theorem dX10_row_34 : decode cX10_row 34 = .ok (.if_icmp .ge 78, 3) := by decide +kernel
theorem dX10_row_37 : decode cX10_row 37 = .ok (.iload_n 2, 1) := by decide +kernel
theorem dX10_row_38 : decode cX10_row 38 = .ok (.iconst 1, 1) := by decide +kernel
theorem dX10_row_39 : decode cX10_row 39 = .ok (.iadd, 1) := by decide +kernel
theorem dX10_row_40 : decode cX10_row 40 = .ok (.aload_n 0, 1) := by decide +kernel
theorem dX10_row_41 : decode cX10_row 41 = .ok (.getfield 33, 3) := by decide +kernel
theorem dX10_row_44 : decode cX10_row 44 = .ok (.getfield 147, 3) := by decide +kernel
theorem dX10_row_47 : decode cX10_row 47 = .ok (.if_icmp .ge 49, 3) := by decide +kernel
theorem dX10_row_50 : decode cX10_row 50 = .ok (.aload_n 0, 1) := by decide +kernel
theorem dX10_row_51 : decode cX10_row 51 = .ok (.getfield 33, 3) := by decide +kernel
theorem dX10_row_54 : decode cX10_row 54 = .ok (.iload_n 2, 1) := by decide +kernel
theorem dX10_row_55 : decode cX10_row 55 = .ok (.invokevirtual 157, 3) := by decide +kernel
theorem dX10_row_58 : decode cX10_row 58 = .ok (.invokestatic 124, 3) := by decide +kernel
theorem dX10_row_61 : decode cX10_row 61 = .ok (.ifCond .eq 35, 3) := by decide +kernel
theorem dX10_row_64 : decode cX10_row 64 = .ok (.aload_n 0, 1) := by decide +kernel
theorem dX10_row_65 : decode cX10_row 65 = .ok (.getfield 12, 3) := by decide +kernel
theorem dX10_row_68 : decode cX10_row 68 = .ok (.getfield 127, 3) := by decide +kernel
theorem dX10_row_71 : decode cX10_row 71 = .ok (.aload_n 0, 1) := by decide +kernel
theorem dX10_row_72 : decode cX10_row 72 = .ok (.getfield 33, 3) := by decide +kernel
theorem dX10_row_75 : decode cX10_row 75 = .ok (.iload_n 2, 1) := by decide +kernel
theorem dX10_row_76 : decode cX10_row 76 = .ok (.invokevirtual 157, 3) := by decide +kernel
theorem dX10_row_79 : decode cX10_row 79 = .ok (.aload_n 0, 1) := by decide +kernel
theorem dX10_row_80 : decode cX10_row 80 = .ok (.getfield 33, 3) := by decide +kernel
theorem dX10_row_83 : decode cX10_row 83 = .ok (.iload_n 2, 1) := by decide +kernel
theorem dX10_row_84 : decode cX10_row 84 = .ok (.iconst 1, 1) := by decide +kernel
theorem dX10_row_85 : decode cX10_row 85 = .ok (.iadd, 1) := by decide +kernel
theorem dX10_row_86 : decode cX10_row 86 = .ok (.invokevirtual 157, 3) := by decide +kernel
theorem dX10_row_89 : decode cX10_row 89 = .ok (.iastore, 1) := by decide +kernel
theorem dX10_row_90 : decode cX10_row 90 = .ok (.iinc 1 1, 3) := by decide +kernel
theorem dX10_row_93 : decode cX10_row 93 = .ok (.goto 13, 3) := by decide +kernel
theorem dX10_row_96 : decode cX10_row 96 = .ok (.aload_n 0, 1) := by decide +kernel
theorem dX10_row_97 : decode cX10_row 97 = .ok (.dup, 1) := by decide +kernel
theorem dX10_row_98 : decode cX10_row 98 = .ok (.getfield 154, 3) := by decide +kernel
theorem dX10_row_101 : decode cX10_row 101 = .ok (.iconst 1, 1) := by decide +kernel
theorem dX10_row_102 : decode cX10_row 102 = .ok (.iadd, 1) := by decide +kernel
theorem dX10_row_103 : decode cX10_row 103 = .ok (.putfield 154, 3) := by decide +kernel
theorem dX10_row_106 : decode cX10_row 106 = .ok (.iinc 2 2, 3) := by decide +kernel
theorem dX10_row_109 : decode cX10_row 109 = .ok (.goto (-83), 3) := by decide +kernel
theorem dX10_row_112 : decode cX10_row 112 = .ok (.aload_n 0, 1) := by decide +kernel
theorem dX10_row_113 : decode cX10_row 113 = .ok (.getfield 33, 3) := by decide +kernel
theorem dX10_row_116 : decode cX10_row 116 = .ok (.iconst 0, 1) := by decide +kernel
theorem dX10_row_117 : decode cX10_row 117 = .ok (.putfield 147, 3) := by decide +kernel
theorem dX10_row_120 : decode cX10_row 120 = .ok (.aload_n 0, 1) := by decide +kernel
theorem dX10_row_121 : decode cX10_row 121 = .ok (.getfield 72, 3) := by decide +kernel
theorem dX10_row_124 : decode cX10_row 124 = .ok (.invokevirtual 105, 3) := by decide +kernel
theorem dX10_row_127 : decode cX10_row 127 = .ok (.aload_n 0, 1) := by decide +kernel
theorem dX10_row_128 : decode cX10_row 128 = .ok (.iload_n 1, 1) := by decide +kernel
theorem dX10_row_129 : decode cX10_row 129 = .ok (.invokevirtual 108, 3) := by decide +kernel
theorem dX10_row_132 : decode cX10_row 132 = .ok (.ireturn, 1) := by decide +kernel
theorem dX10_creaks_0 : decode cX10_creaks 0 = .ok (.aload_n 0, 1) := by decide +kernel
theorem dX10_creaks_1 : decode cX10_creaks 1 = .ok (.getfield 154, 3) := by decide +kernel
theorem dX10_creaks_4 : decode cX10_creaks 4 = .ok (.ireturn, 1) := by decide +kernel
theorem dX10_orders_0 : decode cX10_orders 0 = .ok (.aload_n 0, 1) := by decide +kernel
theorem dX10_orders_1 : decode cX10_orders 1 = .ok (.getfield 79, 3) := by decide +kernel
theorem dX10_orders_4 : decode cX10_orders 4 = .ok (.iconst (-1), 1) := by decide +kernel
theorem dX10_orders_5 : decode cX10_orders 5 = .ok (.putfield 181, 3) := by decide +kernel
theorem dX10_orders_8 : decode cX10_orders 8 = .ok (.aload_n 0, 1) := by decide +kernel
theorem dX10_orders_9 : decode cX10_orders 9 = .ok (.getfield 42, 3) := by decide +kernel
theorem dX10_orders_12 : decode cX10_orders 12 = .ok (.iconst 1, 1) := by decide +kernel
theorem dX10_orders_13 : decode cX10_orders 13 = .ok (.invokevirtual 163, 3) := by decide +kernel
theorem dX10_orders_16 : decode cX10_orders 16 = .ok (.ifCond .ne 10, 3) := by decide +kernel
theorem dX10_orders_19 : decode cX10_orders 19 = .ok (.aload_n 0, 1) := by decide +kernel
theorem dX10_orders_20 : decode cX10_orders 20 = .ok (.bipush (-6), 2) := by decide +kernel
theorem dX10_orders_22 : decode cX10_orders 22 = .ok (.invokevirtual 91, 3) := by decide +kernel
theorem dX10_orders_25 : decode cX10_orders 25 = .ok (.ireturn, 1) := by decide +kernel
theorem dX10_orders_26 : decode cX10_orders 26 = .ok (.aload_n 0, 1) := by decide +kernel
theorem dX10_orders_27 : decode cX10_orders 27 = .ok (.getfield 79, 3) := by decide +kernel
theorem dX10_orders_30 : decode cX10_orders 30 = .ok (.aload_n 0, 1) := by decide +kernel
theorem dX10_orders_31 : decode cX10_orders 31 = .ok (.getfield 42, 3) := by decide +kernel
theorem dX10_orders_34 : decode cX10_orders 34 = .ok (.getfield 171, 3) := by decide +kernel
theorem dX10_orders_37 : decode cX10_orders 37 = .ok (.aload_n 0, 1) := by decide +kernel
theorem dX10_orders_38 : decode cX10_orders 38 = .ok (.getfield 12, 3) := by decide +kernel
theorem dX10_orders_41 : decode cX10_orders 41 = .ok (.aload_n 0, 1) := by decide +kernel
theorem dX10_orders_42 : decode cX10_orders 42 = .ok (.getfield 72, 3) := by decide +kernel
theorem dX10_orders_45 : decode cX10_orders 45 = .ok (.aload_n 0, 1) := by decide +kernel
theorem dX10_orders_46 : decode cX10_orders 46 = .ok (.getfield 58, 3) := by decide +kernel
theorem dX10_orders_49 : decode cX10_orders 49 = .ok (.invokevirtual 184, 3) := by decide +kernel
theorem dX10_orders_52 : decode cX10_orders 52 = .ok (.istore_n 1, 1) := by decide +kernel
theorem dX10_orders_53 : decode cX10_orders 53 = .ok (.iload_n 1, 1) := by decide +kernel
theorem dX10_orders_54 : decode cX10_orders 54 = .ok (.ifCond .ge 11, 3) := by decide +kernel
theorem dX10_orders_57 : decode cX10_orders 57 = .ok (.aload_n 0, 1) := by decide +kernel
theorem dX10_orders_58 : decode cX10_orders 58 = .ok (.iload_n 1, 1) := by decide +kernel
theorem dX10_orders_59 : decode cX10_orders 59 = .ok (.invokevirtual 91, 3) := by decide +kernel
theorem dX10_orders_62 : decode cX10_orders 62 = .ok (.goto 8, 3) := by decide +kernel
theorem dX10_orders_65 : decode cX10_orders 65 = .ok (.aload_n 0, 1) := by decide +kernel
theorem dX10_orders_66 : decode cX10_orders 66 = .ok (.iload_n 1, 1) := by decide +kernel
theorem dX10_orders_67 : decode cX10_orders 67 = .ok (.invokevirtual 108, 3) := by decide +kernel
theorem dX10_orders_70 : decode cX10_orders 70 = .ok (.ireturn, 1) := by decide +kernel
theorem dX10_fault_0 : decode cX10_fault 0 = .ok (.aload_n 0, 1) := by decide +kernel
theorem dX10_fault_1 : decode cX10_fault 1 = .ok (.getfield 42, 3) := by decide +kernel
theorem dX10_fault_4 : decode cX10_fault 4 = .ok (.getfield 188, 3) := by decide +kernel
theorem dX10_fault_7 : decode cX10_fault 7 = .ok (.ireturn, 1) := by decide +kernel
theorem dX10_stopped_0 : decode cX10_stopped 0 = .ok (.aload_n 0, 1) := by decide +kernel
theorem dX10_stopped_1 : decode cX10_stopped 1 = .ok (.getfield 79, 3) := by decide +kernel
theorem dX10_stopped_4 : decode cX10_stopped 4 = .ok (.getfield 181, 3) := by decide +kernel
theorem dX10_stopped_7 : decode cX10_stopped 7 = .ok (.ireturn, 1) := by decide +kernel
theorem dX10_force_0 : decode cX10_force 0 = .ok (.iload_n 1, 1) := by decide +kernel
theorem dX10_force_1 : decode cX10_force 1 = .ok (.iconst (-1), 1) := by decide +kernel
theorem dX10_force_2 : decode cX10_force 2 = .ok (.if_icmp .eq 21, 3) := by decide +kernel
theorem dX10_force_5 : decode cX10_force 5 = .ok (.aload_n 0, 1) := by decide +kernel
theorem dX10_force_6 : decode cX10_force 6 = .ok (.getfield 12, 3) := by decide +kernel
theorem dX10_force_9 : decode cX10_force 9 = .ok (.iload_n 1, 1) := by decide +kernel
theorem dX10_force_10 : decode cX10_force 10 = .ok (.invokevirtual 191, 3) := by decide +kernel
theorem dX10_force_13 : decode cX10_force 13 = .ok (.ifCond .ne 10, 3) := by decide +kernel
theorem dX10_force_16 : decode cX10_force 16 = .ok (.aload_n 0, 1) := by decide +kernel
theorem dX10_force_17 : decode cX10_force 17 = .ok (.bipush (-2), 2) := by decide +kernel
theorem dX10_force_19 : decode cX10_force 19 = .ok (.invokevirtual 91, 3) := by decide +kernel
theorem dX10_force_22 : decode cX10_force 22 = .ok (.ireturn, 1) := by decide +kernel
theorem dX10_force_23 : decode cX10_force 23 = .ok (.aload_n 0, 1) := by decide +kernel
theorem dX10_force_24 : decode cX10_force 24 = .ok (.getfield 12, 3) := by decide +kernel
theorem dX10_force_27 : decode cX10_force 27 = .ok (.getfield 194, 3) := by decide +kernel
theorem dX10_force_30 : decode cX10_force 30 = .ok (.istore_n 2, 1) := by decide +kernel
theorem dX10_force_31 : decode cX10_force 31 = .ok (.aload_n 0, 1) := by decide +kernel
theorem dX10_force_32 : decode cX10_force 32 = .ok (.getfield 12, 3) := by decide +kernel
theorem dX10_force_35 : decode cX10_force 35 = .ok (.iload_n 1, 1) := by decide +kernel
theorem dX10_force_36 : decode cX10_force 36 = .ok (.putfield 194, 3) := by decide +kernel
theorem dX10_force_39 : decode cX10_force 39 = .ok (.aload_n 0, 1) := by decide +kernel
theorem dX10_force_40 : decode cX10_force 40 = .ok (.iload_n 2, 1) := by decide +kernel
theorem dX10_force_41 : decode cX10_force 41 = .ok (.invokevirtual 108, 3) := by decide +kernel
theorem dX10_force_44 : decode cX10_force 44 = .ok (.ireturn, 1) := by decide +kernel
theorem dX10_note_0 : decode cX10_note 0 = .ok (.aload_n 0, 1) := by decide +kernel
theorem dX10_note_1 : decode cX10_note 1 = .ok (.iconst 0, 1) := by decide +kernel
theorem dX10_note_2 : decode cX10_note 2 = .ok (.iload_n 1, 1) := by decide +kernel
theorem dX10_note_3 : decode cX10_note 3 = .ok (.iload_n 2, 1) := by decide +kernel
theorem dX10_note_4 : decode cX10_note 4 = .ok (.invokevirtual 197, 3) := by decide +kernel
theorem dX10_note_7 : decode cX10_note 7 = .ok (.ireturn, 1) := by decide +kernel
theorem dX10_give_0 : decode cX10_give 0 = .ok (.aload_n 0, 1) := by decide +kernel
theorem dX10_give_1 : decode cX10_give 1 = .ok (.iconst 1, 1) := by decide +kernel
theorem dX10_give_2 : decode cX10_give 2 = .ok (.iload_n 1, 1) := by decide +kernel
theorem dX10_give_3 : decode cX10_give 3 = .ok (.iload_n 2, 1) := by decide +kernel
theorem dX10_give_4 : decode cX10_give 4 = .ok (.invokevirtual 197, 3) := by decide +kernel
theorem dX10_give_7 : decode cX10_give 7 = .ok (.ireturn, 1) := by decide +kernel
theorem dX10_shift_0 : decode cX10_shift 0 = .ok (.aload_n 0, 1) := by decide +kernel
theorem dX10_shift_1 : decode cX10_shift 1 = .ok (.iconst 2, 1) := by decide +kernel
theorem dX10_shift_2 : decode cX10_shift 2 = .ok (.iload_n 1, 1) := by decide +kernel
theorem dX10_shift_3 : decode cX10_shift 3 = .ok (.iconst 0, 1) := by decide +kernel
theorem dX10_shift_4 : decode cX10_shift 4 = .ok (.invokevirtual 197, 3) := by decide +kernel
theorem dX10_shift_7 : decode cX10_shift 7 = .ok (.ireturn, 1) := by decide +kernel
theorem dX10_pass_0 : decode cX10_pass 0 = .ok (.aload_n 0, 1) := by decide +kernel
theorem dX10_pass_1 : decode cX10_pass 1 = .ok (.iconst 3, 1) := by decide +kernel
theorem dX10_pass_2 : decode cX10_pass 2 = .ok (.iconst 0, 1) := by decide +kernel
theorem dX10_pass_3 : decode cX10_pass 3 = .ok (.iconst 0, 1) := by decide +kernel
theorem dX10_pass_4 : decode cX10_pass 4 = .ok (.invokevirtual 197, 3) := by decide +kernel
theorem dX10_pass_7 : decode cX10_pass 7 = .ok (.ireturn, 1) := by decide +kernel
theorem dX10_undo_0 : decode cX10_undo 0 = .ok (.aload_n 0, 1) := by decide +kernel
theorem dX10_undo_1 : decode cX10_undo 1 = .ok (.getfield 72, 3) := by decide +kernel
theorem dX10_undo_4 : decode cX10_undo 4 = .ok (.aload_n 0, 1) := by decide +kernel
theorem dX10_undo_5 : decode cX10_undo 5 = .ok (.getfield 12, 3) := by decide +kernel
theorem dX10_undo_8 : decode cX10_undo 8 = .ok (.invokevirtual 201, 3) := by decide +kernel
theorem dX10_undo_11 : decode cX10_undo 11 = .ok (.istore_n 1, 1) := by decide +kernel
theorem dX10_undo_12 : decode cX10_undo 12 = .ok (.iload_n 1, 1) := by decide +kernel
theorem dX10_undo_13 : decode cX10_undo 13 = .ok (.ifCond .ge 12, 3) := by decide +kernel
theorem dX10_undo_16 : decode cX10_undo 16 = .ok (.aload_n 0, 1) := by decide +kernel
theorem dX10_undo_17 : decode cX10_undo 17 = .ok (.bipush (-3), 2) := by decide +kernel
theorem dX10_undo_19 : decode cX10_undo 19 = .ok (.invokevirtual 91, 3) := by decide +kernel
theorem dX10_undo_22 : decode cX10_undo 22 = .ok (.goto 8, 3) := by decide +kernel
theorem dX10_undo_25 : decode cX10_undo 25 = .ok (.aload_n 0, 1) := by decide +kernel
theorem dX10_undo_26 : decode cX10_undo 26 = .ok (.iload_n 1, 1) := by decide +kernel
theorem dX10_undo_27 : decode cX10_undo 27 = .ok (.invokevirtual 108, 3) := by decide +kernel
theorem dX10_undo_30 : decode cX10_undo 30 = .ok (.ireturn, 1) := by decide +kernel
theorem dX10_drill_0 : decode cX10_drill 0 = .ok (.aload_n 0, 1) := by decide +kernel
theorem dX10_drill_1 : decode cX10_drill 1 = .ok (.getfield 58, 3) := by decide +kernel
theorem dX10_drill_4 : decode cX10_drill 4 = .ok (.aload_n 0, 1) := by decide +kernel
theorem dX10_drill_5 : decode cX10_drill 5 = .ok (.getfield 12, 3) := by decide +kernel
theorem dX10_drill_8 : decode cX10_drill 8 = .ok (.invokevirtual 205, 3) := by decide +kernel
theorem dX10_drill_11 : decode cX10_drill 11 = .ok (.ireturn, 1) := by decide +kernel
theorem dX10_least_0 : decode cX10_least 0 = .ok (.iload_n 1, 1) := by decide +kernel
theorem dX10_least_1 : decode cX10_least 1 = .ok (.iconst (-1), 1) := by decide +kernel
theorem dX10_least_2 : decode cX10_least 2 = .ok (.if_icmp .ne 15, 3) := by decide +kernel
theorem dX10_least_5 : decode cX10_least 5 = .ok (.aload_n 0, 1) := by decide +kernel
theorem dX10_least_6 : decode cX10_least 6 = .ok (.getfield 58, 3) := by decide +kernel
theorem dX10_least_9 : decode cX10_least 9 = .ok (.aload_n 0, 1) := by decide +kernel
theorem dX10_least_10 : decode cX10_least 10 = .ok (.getfield 12, 3) := by decide +kernel
theorem dX10_least_13 : decode cX10_least 13 = .ok (.invokevirtual 208, 3) := by decide +kernel
theorem dX10_least_16 : decode cX10_least 16 = .ok (.ireturn, 1) := by decide +kernel
theorem dX10_least_17 : decode cX10_least 17 = .ok (.iload_n 1, 1) := by decide +kernel
theorem dX10_least_18 : decode cX10_least 18 = .ok (.invokestatic 124, 3) := by decide +kernel
theorem dX10_least_21 : decode cX10_least 21 = .ok (.ifCond .eq 18, 3) := by decide +kernel
theorem dX10_least_24 : decode cX10_least 24 = .ok (.aload_n 0, 1) := by decide +kernel
theorem dX10_least_25 : decode cX10_least 25 = .ok (.getfield 58, 3) := by decide +kernel
theorem dX10_least_28 : decode cX10_least 28 = .ok (.aload_n 0, 1) := by decide +kernel
theorem dX10_least_29 : decode cX10_least 29 = .ok (.getfield 12, 3) := by decide +kernel
theorem dX10_least_32 : decode cX10_least 32 = .ok (.iload_n 1, 1) := by decide +kernel
theorem dX10_least_33 : decode cX10_least 33 = .ok (.invokevirtual 211, 3) := by decide +kernel
theorem dX10_least_36 : decode cX10_least 36 = .ok (.goto 4, 3) := by decide +kernel
theorem dX10_least_39 : decode cX10_least 39 = .ok (.iconst (-1), 1) := by decide +kernel
theorem dX10_least_40 : decode cX10_least 40 = .ok (.ireturn, 1) := by decide +kernel
theorem dX10_who_0 : decode cX10_who 0 = .ok (.iload_n 1, 1) := by decide +kernel
theorem dX10_who_1 : decode cX10_who 1 = .ok (.invokestatic 124, 3) := by decide +kernel
theorem dX10_who_4 : decode cX10_who 4 = .ok (.ifCond .eq 10, 3) := by decide +kernel
theorem dX10_who_7 : decode cX10_who 7 = .ok (.iload_n 2, 1) := by decide +kernel
theorem dX10_who_8 : decode cX10_who 8 = .ok (.invokestatic 118, 3) := by decide +kernel
theorem dX10_who_11 : decode cX10_who 11 = .ok (.ifCond .ne 5, 3) := by decide +kernel
theorem dX10_who_14 : decode cX10_who 14 = .ok (.iconst (-1), 1) := by decide +kernel
theorem dX10_who_15 : decode cX10_who 15 = .ok (.ireturn, 1) := by decide +kernel
theorem dX10_who_16 : decode cX10_who 16 = .ok (.aload_n 0, 1) := by decide +kernel
theorem dX10_who_17 : decode cX10_who 17 = .ok (.getfield 58, 3) := by decide +kernel
theorem dX10_who_20 : decode cX10_who 20 = .ok (.aload_n 0, 1) := by decide +kernel
theorem dX10_who_21 : decode cX10_who 21 = .ok (.getfield 12, 3) := by decide +kernel
theorem dX10_who_24 : decode cX10_who 24 = .ok (.iload_n 1, 1) := by decide +kernel
theorem dX10_who_25 : decode cX10_who 25 = .ok (.invokevirtual 215, 3) := by decide +kernel
theorem dX10_who_28 : decode cX10_who 28 = .ok (.ldc2_w 219, 3) := by decide +kernel
theorem dX10_who_31 : decode cX10_who 31 = .ok (.lcmp, 1) := by decide +kernel
theorem dX10_who_32 : decode cX10_who 32 = .ok (.ifCond .ge 14, 3) := by decide +kernel
theorem dX10_who_35 : decode cX10_who 35 = .ok (.aload_n 0, 1) := by decide +kernel
theorem dX10_who_36 : decode cX10_who 36 = .ok (.getfield 58, 3) := by decide +kernel
theorem dX10_who_39 : decode cX10_who 39 = .ok (.iload_n 2, 1) := by decide +kernel
theorem dX10_who_40 : decode cX10_who 40 = .ok (.invokevirtual 221, 3) := by decide +kernel
theorem dX10_who_43 : decode cX10_who 43 = .ok (.goto 4, 3) := by decide +kernel
theorem dX10_who_46 : decode cX10_who 46 = .ok (.iconst (-1), 1) := by decide +kernel
theorem dX10_who_47 : decode cX10_who 47 = .ok (.ireturn, 1) := by decide +kernel
theorem dX10_ways_0 : decode cX10_ways 0 = .ok (.iload_n 1, 1) := by decide +kernel
theorem dX10_ways_1 : decode cX10_ways 1 = .ok (.invokestatic 124, 3) := by decide +kernel
theorem dX10_ways_4 : decode cX10_ways 4 = .ok (.ifCond .eq 18, 3) := by decide +kernel
theorem dX10_ways_7 : decode cX10_ways 7 = .ok (.aload_n 0, 1) := by decide +kernel
theorem dX10_ways_8 : decode cX10_ways 8 = .ok (.getfield 58, 3) := by decide +kernel
theorem dX10_ways_11 : decode cX10_ways 11 = .ok (.aload_n 0, 1) := by decide +kernel
theorem dX10_ways_12 : decode cX10_ways 12 = .ok (.getfield 12, 3) := by decide +kernel
theorem dX10_ways_15 : decode cX10_ways 15 = .ok (.iload_n 1, 1) := by decide +kernel
theorem dX10_ways_16 : decode cX10_ways 16 = .ok (.invokevirtual 224, 3) := by decide +kernel
theorem dX10_ways_19 : decode cX10_ways 19 = .ok (.goto 4, 3) := by decide +kernel
theorem dX10_ways_22 : decode cX10_ways 22 = .ok (.iconst (-1), 1) := by decide +kernel
theorem dX10_ways_23 : decode cX10_ways 23 = .ok (.ireturn, 1) := by decide +kernel
theorem dX10_might_0 : decode cX10_might 0 = .ok (.iload_n 1, 1) := by decide +kernel
theorem dX10_might_1 : decode cX10_might 1 = .ok (.invokestatic 124, 3) := by decide +kernel
theorem dX10_might_4 : decode cX10_might 4 = .ok (.ifCond .eq 26, 3) := by decide +kernel
theorem dX10_might_7 : decode cX10_might 7 = .ok (.iload_n 2, 1) := by decide +kernel
theorem dX10_might_8 : decode cX10_might 8 = .ok (.invokestatic 118, 3) := by decide +kernel
theorem dX10_might_11 : decode cX10_might 11 = .ok (.ifCond .eq 19, 3) := by decide +kernel
theorem dX10_might_14 : decode cX10_might 14 = .ok (.aload_n 0, 1) := by decide +kernel
theorem dX10_might_15 : decode cX10_might 15 = .ok (.getfield 58, 3) := by decide +kernel
theorem dX10_might_18 : decode cX10_might 18 = .ok (.aload_n 0, 1) := by decide +kernel
theorem dX10_might_19 : decode cX10_might 19 = .ok (.getfield 12, 3) := by decide +kernel
theorem dX10_might_22 : decode cX10_might 22 = .ok (.iload_n 1, 1) := by decide +kernel
theorem dX10_might_23 : decode cX10_might 23 = .ok (.iload_n 2, 1) := by decide +kernel
theorem dX10_might_24 : decode cX10_might 24 = .ok (.invokevirtual 227, 3) := by decide +kernel
theorem dX10_might_27 : decode cX10_might 27 = .ok (.goto 4, 3) := by decide +kernel
theorem dX10_might_30 : decode cX10_might 30 = .ok (.iconst (-1), 1) := by decide +kernel
theorem dX10_might_31 : decode cX10_might 31 = .ok (.ireturn, 1) := by decide +kernel
theorem dX10_cover_0 : decode cX10_cover 0 = .ok (.iload_n 1, 1) := by decide +kernel
theorem dX10_cover_1 : decode cX10_cover 1 = .ok (.ifCond .lt 8, 3) := by decide +kernel
theorem dX10_cover_4 : decode cX10_cover 4 = .ok (.iload_n 1, 1) := by decide +kernel
theorem dX10_cover_5 : decode cX10_cover 5 = .ok (.iconst 1, 1) := by decide +kernel
theorem dX10_cover_6 : decode cX10_cover 6 = .ok (.if_icmp .le 5, 3) := by decide +kernel
theorem dX10_cover_9 : decode cX10_cover 9 = .ok (.iconst (-1), 1) := by decide +kernel
theorem dX10_cover_10 : decode cX10_cover 10 = .ok (.ireturn, 1) := by decide +kernel
theorem dX10_cover_11 : decode cX10_cover 11 = .ok (.aload_n 0, 1) := by decide +kernel
theorem dX10_cover_12 : decode cX10_cover 12 = .ok (.getfield 58, 3) := by decide +kernel
theorem dX10_cover_15 : decode cX10_cover 15 = .ok (.aload_n 0, 1) := by decide +kernel
theorem dX10_cover_16 : decode cX10_cover 16 = .ok (.getfield 12, 3) := by decide +kernel
theorem dX10_cover_19 : decode cX10_cover 19 = .ok (.invokevirtual 231, 3) := by decide +kernel
theorem dX10_cover_22 : decode cX10_cover 22 = .ok (.istore_n 2, 1) := by decide +kernel
theorem dX10_cover_23 : decode cX10_cover 23 = .ok (.iload_n 1, 1) := by decide +kernel
theorem dX10_cover_24 : decode cX10_cover 24 = .ok (.ifCond .ne 15, 3) := by decide +kernel
theorem dX10_cover_27 : decode cX10_cover 27 = .ok (.iload_n 2, 1) := by decide +kernel
theorem dX10_cover_28 : decode cX10_cover 28 = .ok (.iconst (-1), 1) := by decide +kernel
theorem dX10_cover_29 : decode cX10_cover 29 = .ok (.if_icmp .eq 10, 3) := by decide +kernel
theorem dX10_cover_32 : decode cX10_cover 32 = .ok (.iload_n 2, 1) := by decide +kernel
theorem dX10_cover_33 : decode cX10_cover 33 = .ok (.invokestatic 234, 3) := by decide +kernel
theorem dX10_cover_36 : decode cX10_cover 36 = .ok (.goto 4, 3) := by decide +kernel
theorem dX10_cover_39 : decode cX10_cover 39 = .ok (.iload_n 2, 1) := by decide +kernel
theorem dX10_cover_40 : decode cX10_cover 40 = .ok (.ireturn, 1) := by decide +kernel
theorem dX10_run_0 : decode cX10_run 0 = .ok (.iload_n 1, 1) := by decide +kernel
theorem dX10_run_1 : decode cX10_run 1 = .ok (.ifCond .lt 25, 3) := by decide +kernel
theorem dX10_run_4 : decode cX10_run 4 = .ok (.iload_n 1, 1) := by decide +kernel
theorem dX10_run_5 : decode cX10_run 5 = .ok (.iconst 1, 1) := by decide +kernel
theorem dX10_run_6 : decode cX10_run 6 = .ok (.aload_n 0, 1) := by decide +kernel
theorem dX10_run_7 : decode cX10_run 7 = .ok (.getfield 12, 3) := by decide +kernel
theorem dX10_run_10 : decode cX10_run 10 = .ok (.getfield 95, 3) := by decide +kernel
theorem dX10_run_13 : decode cX10_run 13 = .ok (.ishl, 1) := by decide +kernel
theorem dX10_run_14 : decode cX10_run 14 = .ok (.if_icmp .ge 12, 3) := by decide +kernel
theorem dX10_run_17 : decode cX10_run 17 = .ok (.iload_n 2, 1) := by decide +kernel
theorem dX10_run_18 : decode cX10_run 18 = .ok (.ifCond .lt 8, 3) := by decide +kernel
theorem dX10_run_21 : decode cX10_run 21 = .ok (.iload_n 2, 1) := by decide +kernel
theorem dX10_run_22 : decode cX10_run 22 = .ok (.iconst 1, 1) := by decide +kernel
theorem dX10_run_23 : decode cX10_run 23 = .ok (.if_icmp .le 5, 3) := by decide +kernel
theorem dX10_run_26 : decode cX10_run 26 = .ok (.iconst (-1), 1) := by decide +kernel
theorem dX10_run_27 : decode cX10_run 27 = .ok (.ireturn, 1) := by decide +kernel
theorem dX10_run_28 : decode cX10_run 28 = .ok (.iconst 0, 1) := by decide +kernel
theorem dX10_run_29 : decode cX10_run 29 = .ok (.istore_n 3, 1) := by decide +kernel
theorem dX10_run_30 : decode cX10_run 30 = .ok (.iconst (-1), 1) := by decide +kernel
theorem dX10_run_31 : decode cX10_run 31 = .ok (.istore 4, 2) := by decide +kernel
theorem dX10_run_33 : decode cX10_run 33 = .ok (.iconst 0, 1) := by decide +kernel
theorem dX10_run_34 : decode cX10_run 34 = .ok (.istore 5, 2) := by decide +kernel
theorem dX10_run_36 : decode cX10_run 36 = .ok (.iconst 0, 1) := by decide +kernel
theorem dX10_run_37 : decode cX10_run 37 = .ok (.istore 6, 2) := by decide +kernel
theorem dX10_run_39 : decode cX10_run 39 = .ok (.iload 6, 2) := by decide +kernel
theorem dX10_run_41 : decode cX10_run 41 = .ok (.bipush 16, 2) := by decide +kernel
theorem dX10_run_43 : decode cX10_run 43 = .ok (.if_icmp .ge 54, 3) := by decide +kernel
theorem dX10_run_46 : decode cX10_run 46 = .ok (.aload_n 0, 1) := by decide +kernel
theorem dX10_run_47 : decode cX10_run 47 = .ok (.getfield 58, 3) := by decide +kernel
theorem dX10_run_50 : decode cX10_run 50 = .ok (.aload_n 0, 1) := by decide +kernel
theorem dX10_run_51 : decode cX10_run 51 = .ok (.getfield 12, 3) := by decide +kernel
theorem dX10_run_54 : decode cX10_run 54 = .ok (.iload 6, 2) := by decide +kernel
theorem dX10_run_56 : decode cX10_run 56 = .ok (.iload_n 1, 1) := by decide +kernel
theorem dX10_run_57 : decode cX10_run 57 = .ok (.invokevirtual 239, 3) := by decide +kernel
theorem dX10_run_60 : decode cX10_run 60 = .ok (.ifCond .eq 10, 3) := by decide +kernel
theorem dX10_run_63 : decode cX10_run 63 = .ok (.iload 5, 2) := by decide +kernel
theorem dX10_run_65 : decode cX10_run 65 = .ok (.iconst 1, 1) := by decide +kernel
theorem dX10_run_66 : decode cX10_run 66 = .ok (.iadd, 1) := by decide +kernel
theorem dX10_run_67 : decode cX10_run 67 = .ok (.goto 4, 3) := by decide +kernel
theorem dX10_run_70 : decode cX10_run 70 = .ok (.iconst 0, 1) := by decide +kernel
theorem dX10_run_71 : decode cX10_run 71 = .ok (.istore 5, 2) := by decide +kernel
theorem dX10_run_73 : decode cX10_run 73 = .ok (.iload 5, 2) := by decide +kernel
theorem dX10_run_75 : decode cX10_run 75 = .ok (.iload_n 3, 1) := by decide +kernel
theorem dX10_run_76 : decode cX10_run 76 = .ok (.if_icmp .le 15, 3) := by decide +kernel
theorem dX10_run_79 : decode cX10_run 79 = .ok (.iload 5, 2) := by decide +kernel
theorem dX10_run_81 : decode cX10_run 81 = .ok (.istore_n 3, 1) := by decide +kernel
theorem dX10_run_82 : decode cX10_run 82 = .ok (.iload 6, 2) := by decide +kernel
theorem dX10_run_84 : decode cX10_run 84 = .ok (.iload 5, 2) := by decide +kernel
theorem dX10_run_86 : decode cX10_run 86 = .ok (.isub, 1) := by decide +kernel
theorem dX10_run_87 : decode cX10_run 87 = .ok (.iconst 1, 1) := by decide +kernel
theorem dX10_run_88 : decode cX10_run 88 = .ok (.iadd, 1) := by decide +kernel
theorem dX10_run_89 : decode cX10_run 89 = .ok (.istore 4, 2) := by decide +kernel
theorem dX10_run_91 : decode cX10_run 91 = .ok (.iinc 6 1, 3) := by decide +kernel
theorem dX10_run_94 : decode cX10_run 94 = .ok (.goto (-55), 3) := by decide +kernel
theorem dX10_run_97 : decode cX10_run 97 = .ok (.iload_n 2, 1) := by decide +kernel
theorem dX10_run_98 : decode cX10_run 98 = .ok (.ifCond .ne 7, 3) := by decide +kernel
theorem dX10_run_101 : decode cX10_run 101 = .ok (.iload_n 3, 1) := by decide +kernel
theorem dX10_run_102 : decode cX10_run 102 = .ok (.goto 5, 3) := by decide +kernel
theorem dX10_run_105 : decode cX10_run 105 = .ok (.iload 4, 2) := by decide +kernel
theorem dX10_run_107 : decode cX10_run 107 = .ok (.ireturn, 1) := by decide +kernel
theorem dX10_best_0 : decode cX10_best 0 = .ok (.iload_n 1, 1) := by decide +kernel
theorem dX10_best_1 : decode cX10_best 1 = .ok (.ifCond .lt 8, 3) := by decide +kernel
theorem dX10_best_4 : decode cX10_best 4 = .ok (.iload_n 1, 1) := by decide +kernel
theorem dX10_best_5 : decode cX10_best 5 = .ok (.iconst 1, 1) := by decide +kernel
theorem dX10_best_6 : decode cX10_best 6 = .ok (.if_icmp .le 6, 3) := by decide +kernel
theorem dX10_best_9 : decode cX10_best 9 = .ok (.bipush (-100), 2) := by decide +kernel
theorem dX10_best_11 : decode cX10_best 11 = .ok (.ireturn, 1) := by decide +kernel
theorem dX10_best_12 : decode cX10_best 12 = .ok (.bipush (-100), 2) := by decide +kernel
theorem dX10_best_14 : decode cX10_best 14 = .ok (.istore_n 2, 1) := by decide +kernel
theorem dX10_best_15 : decode cX10_best 15 = .ok (.bipush (-100), 2) := by decide +kernel
theorem dX10_best_17 : decode cX10_best 17 = .ok (.istore_n 3, 1) := by decide +kernel
theorem dX10_best_18 : decode cX10_best 18 = .ok (.bipush (-7), 2) := by decide +kernel
theorem dX10_best_20 : decode cX10_best 20 = .ok (.istore 4, 2) := by decide +kernel
theorem dX10_best_22 : decode cX10_best 22 = .ok (.iload 4, 2) := by decide +kernel
theorem dX10_best_24 : decode cX10_best 24 = .ok (.bipush 7, 2) := by decide +kernel
theorem dX10_best_26 : decode cX10_best 26 = .ok (.if_icmp .gt 41, 3) := by decide +kernel
theorem dX10_best_29 : decode cX10_best 29 = .ok (.aload_n 0, 1) := by decide +kernel
theorem dX10_best_30 : decode cX10_best 30 = .ok (.iload 4, 2) := by decide +kernel
theorem dX10_best_32 : decode cX10_best 32 = .ok (.invokevirtual 243, 3) := by decide +kernel
theorem dX10_best_35 : decode cX10_best 35 = .ok (.istore 5, 2) := by decide +kernel
theorem dX10_best_37 : decode cX10_best 37 = .ok (.iload 5, 2) := by decide +kernel
theorem dX10_best_39 : decode cX10_best 39 = .ok (.iconst (-1), 1) := by decide +kernel
theorem dX10_best_40 : decode cX10_best 40 = .ok (.if_icmp .eq 21, 3) := by decide +kernel
theorem dX10_best_43 : decode cX10_best 43 = .ok (.iload_n 3, 1) := by decide +kernel
theorem dX10_best_44 : decode cX10_best 44 = .ok (.bipush (-100), 2) := by decide +kernel
theorem dX10_best_46 : decode cX10_best 46 = .ok (.if_icmp .eq 9, 3) := by decide +kernel
theorem dX10_best_49 : decode cX10_best 49 = .ok (.iload 5, 2) := by decide +kernel
theorem dX10_best_51 : decode cX10_best 51 = .ok (.iload_n 3, 1) := by decide +kernel
theorem dX10_best_52 : decode cX10_best 52 = .ok (.if_icmp .ge 9, 3) := by decide +kernel
theorem dX10_best_55 : decode cX10_best 55 = .ok (.iload 4, 2) := by decide +kernel
theorem dX10_best_57 : decode cX10_best 57 = .ok (.istore_n 2, 1) := by decide +kernel
theorem dX10_best_58 : decode cX10_best 58 = .ok (.iload 5, 2) := by decide +kernel
theorem dX10_best_60 : decode cX10_best 60 = .ok (.istore_n 3, 1) := by decide +kernel
theorem dX10_best_61 : decode cX10_best 61 = .ok (.iinc 4 1, 3) := by decide +kernel
theorem dX10_best_64 : decode cX10_best 64 = .ok (.goto (-42), 3) := by decide +kernel
theorem dX10_best_67 : decode cX10_best 67 = .ok (.iload_n 1, 1) := by decide +kernel
theorem dX10_best_68 : decode cX10_best 68 = .ok (.ifCond .ne 7, 3) := by decide +kernel
theorem dX10_best_71 : decode cX10_best 71 = .ok (.iload_n 2, 1) := by decide +kernel
theorem dX10_best_72 : decode cX10_best 72 = .ok (.goto 4, 3) := by decide +kernel
theorem dX10_best_75 : decode cX10_best 75 = .ok (.iload_n 3, 1) := by decide +kernel
theorem dX10_best_76 : decode cX10_best 76 = .ok (.ireturn, 1) := by decide +kernel
theorem dX10_motif_0 : decode cX10_motif 0 = .ok (.iload_n 1, 1) := by decide +kernel
theorem dX10_motif_1 : decode cX10_motif 1 = .ok (.ifCond .lt 10, 3) := by decide +kernel
theorem dX10_motif_4 : decode cX10_motif 4 = .ok (.iload_n 1, 1) := by decide +kernel
theorem dX10_motif_5 : decode cX10_motif 5 = .ok (.sipush 255, 3) := by decide +kernel
theorem dX10_motif_8 : decode cX10_motif 8 = .ok (.if_icmp .le 9, 3) := by decide +kernel
theorem dX10_motif_11 : decode cX10_motif 11 = .ok (.aload_n 0, 1) := by decide +kernel
theorem dX10_motif_12 : decode cX10_motif 12 = .ok (.iconst (-1), 1) := by decide +kernel
theorem dX10_motif_13 : decode cX10_motif 13 = .ok (.invokevirtual 91, 3) := by decide +kernel
theorem dX10_motif_16 : decode cX10_motif 16 = .ok (.ireturn, 1) := by decide +kernel
theorem dX10_motif_17 : decode cX10_motif 17 = .ok (.aload_n 0, 1) := by decide +kernel
theorem dX10_motif_18 : decode cX10_motif 18 = .ok (.getfield 12, 3) := by decide +kernel
theorem dX10_motif_21 : decode cX10_motif 21 = .ok (.getfield 246, 3) := by decide +kernel
theorem dX10_motif_24 : decode cX10_motif 24 = .ok (.bipush 6, 2) := by decide +kernel
theorem dX10_motif_26 : decode cX10_motif 26 = .ok (.if_icmp .lt 10, 3) := by decide +kernel
theorem dX10_motif_29 : decode cX10_motif 29 = .ok (.aload_n 0, 1) := by decide +kernel
theorem dX10_motif_30 : decode cX10_motif 30 = .ok (.bipush (-5), 2) := by decide +kernel
theorem dX10_motif_32 : decode cX10_motif 32 = .ok (.invokevirtual 91, 3) := by decide +kernel
theorem dX10_motif_35 : decode cX10_motif 35 = .ok (.ireturn, 1) := by decide +kernel
theorem dX10_motif_36 : decode cX10_motif 36 = .ok (.aload_n 0, 1) := by decide +kernel
theorem dX10_motif_37 : decode cX10_motif 37 = .ok (.getfield 12, 3) := by decide +kernel
theorem dX10_motif_40 : decode cX10_motif 40 = .ok (.getfield 249, 3) := by decide +kernel
theorem dX10_motif_43 : decode cX10_motif 43 = .ok (.aload_n 0, 1) := by decide +kernel
theorem dX10_motif_44 : decode cX10_motif 44 = .ok (.getfield 12, 3) := by decide +kernel
theorem dX10_motif_47 : decode cX10_motif 47 = .ok (.getfield 246, 3) := by decide +kernel
theorem dX10_motif_50 : decode cX10_motif 50 = .ok (.iload_n 1, 1) := by decide +kernel
theorem dX10_motif_51 : decode cX10_motif 51 = .ok (.iastore, 1) := by decide +kernel
theorem dX10_motif_52 : decode cX10_motif 52 = .ok (.aload_n 0, 1) := by decide +kernel
theorem dX10_motif_53 : decode cX10_motif 53 = .ok (.getfield 12, 3) := by decide +kernel
theorem dX10_motif_56 : decode cX10_motif 56 = .ok (.dup, 1) := by decide +kernel
theorem dX10_motif_57 : decode cX10_motif 57 = .ok (.getfield 246, 3) := by decide +kernel
theorem dX10_motif_60 : decode cX10_motif 60 = .ok (.iconst 1, 1) := by decide +kernel
theorem dX10_motif_61 : decode cX10_motif 61 = .ok (.iadd, 1) := by decide +kernel
theorem dX10_motif_62 : decode cX10_motif 62 = .ok (.putfield 246, 3) := by decide +kernel
theorem dX10_motif_65 : decode cX10_motif 65 = .ok (.aload_n 0, 1) := by decide +kernel
theorem dX10_motif_66 : decode cX10_motif 66 = .ok (.aload_n 0, 1) := by decide +kernel
theorem dX10_motif_67 : decode cX10_motif 67 = .ok (.getfield 12, 3) := by decide +kernel
theorem dX10_motif_70 : decode cX10_motif 70 = .ok (.getfield 246, 3) := by decide +kernel
theorem dX10_motif_73 : decode cX10_motif 73 = .ok (.invokevirtual 108, 3) := by decide +kernel
theorem dX10_motif_76 : decode cX10_motif 76 = .ok (.ireturn, 1) := by decide +kernel
theorem dX10_forget_0 : decode cX10_forget 0 = .ok (.aload_n 0, 1) := by decide +kernel
theorem dX10_forget_1 : decode cX10_forget 1 = .ok (.getfield 12, 3) := by decide +kernel
theorem dX10_forget_4 : decode cX10_forget 4 = .ok (.getfield 246, 3) := by decide +kernel
theorem dX10_forget_7 : decode cX10_forget 7 = .ok (.istore_n 1, 1) := by decide +kernel
theorem dX10_forget_8 : decode cX10_forget 8 = .ok (.aload_n 0, 1) := by decide +kernel
theorem dX10_forget_9 : decode cX10_forget 9 = .ok (.getfield 12, 3) := by decide +kernel
theorem dX10_forget_12 : decode cX10_forget 12 = .ok (.iconst 0, 1) := by decide +kernel
theorem dX10_forget_13 : decode cX10_forget 13 = .ok (.putfield 246, 3) := by decide +kernel
theorem dX10_forget_16 : decode cX10_forget 16 = .ok (.iload_n 1, 1) := by decide +kernel
theorem dX10_forget_17 : decode cX10_forget 17 = .ok (.ireturn, 1) := by decide +kernel
theorem dX10_find_0 : decode cX10_find 0 = .ok (.iload_n 1, 1) := by decide +kernel
theorem dX10_find_1 : decode cX10_find 1 = .ok (.iconst (-1), 1) := by decide +kernel
theorem dX10_find_2 : decode cX10_find 2 = .ok (.if_icmp .lt 13, 3) := by decide +kernel
theorem dX10_find_5 : decode cX10_find 5 = .ok (.aload_n 0, 1) := by decide +kernel
theorem dX10_find_6 : decode cX10_find 6 = .ok (.getfield 12, 3) := by decide +kernel
theorem dX10_find_9 : decode cX10_find 9 = .ok (.getfield 246, 3) := by decide +kernel
theorem dX10_find_12 : decode cX10_find 12 = .ok (.ifCond .ne 5, 3) := by decide +kernel
theorem dX10_find_15 : decode cX10_find 15 = .ok (.iconst (-1), 1) := by decide +kernel
theorem dX10_find_16 : decode cX10_find 16 = .ok (.ireturn, 1) := by decide +kernel
theorem dX10_find_17 : decode cX10_find 17 = .ok (.aload_n 0, 1) := by decide +kernel
theorem dX10_find_18 : decode cX10_find 18 = .ok (.getfield 12, 3) := by decide +kernel
theorem dX10_find_21 : decode cX10_find 21 = .ok (.invokevirtual 252, 3) := by decide +kernel
theorem dX10_find_24 : decode cX10_find 24 = .ok (.ifCond .eq 8, 3) := by decide +kernel
theorem dX10_find_27 : decode cX10_find 27 = .ok (.bipush 7, 2) := by decide +kernel
theorem dX10_find_29 : decode cX10_find 29 = .ok (.goto 4, 3) := by decide +kernel
theorem dX10_find_32 : decode cX10_find 32 = .ok (.iconst 0, 1) := by decide +kernel
theorem dX10_find_33 : decode cX10_find 33 = .ok (.istore_n 2, 1) := by decide +kernel
theorem dX10_find_34 : decode cX10_find 34 = .ok (.iconst 0, 1) := by decide +kernel
theorem dX10_find_35 : decode cX10_find 35 = .ok (.istore_n 3, 1) := by decide +kernel
theorem dX10_find_36 : decode cX10_find 36 = .ok (.iconst 0, 1) := by decide +kernel
theorem dX10_find_37 : decode cX10_find 37 = .ok (.istore 4, 2) := by decide +kernel
theorem dX10_find_39 : decode cX10_find 39 = .ok (.iload 4, 2) := by decide +kernel
theorem dX10_find_41 : decode cX10_find 41 = .ok (.aload_n 0, 1) := by decide +kernel
theorem dX10_find_42 : decode cX10_find 42 = .ok (.getfield 12, 3) := by decide +kernel
theorem dX10_find_45 : decode cX10_find 45 = .ok (.getfield 246, 3) := by decide +kernel
theorem dX10_find_48 : decode cX10_find 48 = .ok (.iadd, 1) := by decide +kernel
theorem dX10_find_49 : decode cX10_find 49 = .ok (.bipush 16, 2) := by decide +kernel
theorem dX10_find_51 : decode cX10_find 51 = .ok (.if_icmp .gt 59, 3) := by decide +kernel
theorem dX10_find_54 : decode cX10_find 54 = .ok (.iload_n 2, 1) := by decide +kernel
theorem dX10_find_55 : decode cX10_find 55 = .ok (.ineg, 1) := by decide +kernel
theorem dX10_find_56 : decode cX10_find 56 = .ok (.istore 5, 2) := by decide +kernel
theorem dX10_find_58 : decode cX10_find 58 = .ok (.iload 5, 2) := by decide +kernel
theorem dX10_find_60 : decode cX10_find 60 = .ok (.iload_n 2, 1) := by decide +kernel
theorem dX10_find_61 : decode cX10_find 61 = .ok (.if_icmp .gt 43, 3) := by decide +kernel
theorem dX10_find_64 : decode cX10_find 64 = .ok (.aload_n 0, 1) := by decide +kernel
theorem dX10_find_65 : decode cX10_find 65 = .ok (.getfield 12, 3) := by decide +kernel
theorem dX10_find_68 : decode cX10_find 68 = .ok (.iload 4, 2) := by decide +kernel
theorem dX10_find_70 : decode cX10_find 70 = .ok (.iload 5, 2) := by decide +kernel
theorem dX10_find_72 : decode cX10_find 72 = .ok (.invokevirtual 256, 3) := by decide +kernel
theorem dX10_find_75 : decode cX10_find 75 = .ok (.ifCond .eq 23, 3) := by decide +kernel
theorem dX10_find_78 : decode cX10_find 78 = .ok (.iload_n 3, 1) := by decide +kernel
theorem dX10_find_79 : decode cX10_find 79 = .ok (.iload_n 1, 1) := by decide +kernel
theorem dX10_find_80 : decode cX10_find 80 = .ok (.if_icmp .ne 15, 3) := by decide +kernel
theorem dX10_find_83 : decode cX10_find 83 = .ok (.bipush 100, 2) := by decide +kernel
theorem dX10_find_85 : decode cX10_find 85 = .ok (.iload 4, 2) := by decide +kernel
theorem dX10_find_87 : decode cX10_find 87 = .ok (.imul, 1) := by decide +kernel
theorem dX10_find_88 : decode cX10_find 88 = .ok (.iload 5, 2) := by decide +kernel
theorem dX10_find_90 : decode cX10_find 90 = .ok (.iadd, 1) := by decide +kernel
theorem dX10_find_91 : decode cX10_find 91 = .ok (.bipush 7, 2) := by decide +kernel
theorem dX10_find_93 : decode cX10_find 93 = .ok (.iadd, 1) := by decide +kernel
theorem dX10_find_94 : decode cX10_find 94 = .ok (.ireturn, 1) := by decide +kernel
theorem dX10_find_95 : decode cX10_find 95 = .ok (.iinc 3 1, 3) := by decide +kernel
theorem dX10_find_98 : decode cX10_find 98 = .ok (.iinc 5 1, 3) := by decide +kernel
theorem dX10_find_101 : decode cX10_find 101 = .ok (.goto (-43), 3) := by decide +kernel
theorem dX10_find_104 : decode cX10_find 104 = .ok (.iinc 4 1, 3) := by decide +kernel
theorem dX10_find_107 : decode cX10_find 107 = .ok (.goto (-68), 3) := by decide +kernel
theorem dX10_find_110 : decode cX10_find 110 = .ok (.iload_n 1, 1) := by decide +kernel
theorem dX10_find_111 : decode cX10_find 111 = .ok (.iconst (-1), 1) := by decide +kernel
theorem dX10_find_112 : decode cX10_find 112 = .ok (.if_icmp .ne 7, 3) := by decide +kernel
theorem dX10_find_115 : decode cX10_find 115 = .ok (.iload_n 3, 1) := by decide +kernel
theorem dX10_find_116 : decode cX10_find 116 = .ok (.goto 4, 3) := by decide +kernel
theorem dX10_find_119 : decode cX10_find 119 = .ok (.iconst (-1), 1) := by decide +kernel
theorem dX10_find_120 : decode cX10_find 120 = .ok (.ireturn, 1) := by decide +kernel
theorem dX10_owes_0 : decode cX10_owes 0 = .ok (.aload_n 0, 1) := by decide +kernel
theorem dX10_owes_1 : decode cX10_owes 1 = .ok (.getfield 12, 3) := by decide +kernel
theorem dX10_owes_4 : decode cX10_owes 4 = .ok (.iload_n 1, 1) := by decide +kernel
theorem dX10_owes_5 : decode cX10_owes 5 = .ok (.invokevirtual 111, 3) := by decide +kernel
theorem dX10_owes_8 : decode cX10_owes 8 = .ok (.ifCond .eq 37, 3) := by decide +kernel
theorem dX10_owes_11 : decode cX10_owes 11 = .ok (.aload_n 0, 1) := by decide +kernel
theorem dX10_owes_12 : decode cX10_owes 12 = .ok (.getfield 12, 3) := by decide +kernel
theorem dX10_owes_15 : decode cX10_owes 15 = .ok (.iload_n 2, 1) := by decide +kernel
theorem dX10_owes_16 : decode cX10_owes 16 = .ok (.invokevirtual 111, 3) := by decide +kernel
theorem dX10_owes_19 : decode cX10_owes 19 = .ok (.ifCond .eq 26, 3) := by decide +kernel
theorem dX10_owes_22 : decode cX10_owes 22 = .ok (.iload_n 1, 1) := by decide +kernel
theorem dX10_owes_23 : decode cX10_owes 23 = .ok (.iload_n 2, 1) := by decide +kernel
theorem dX10_owes_24 : decode cX10_owes 24 = .ok (.if_icmp .eq 21, 3) := by decide +kernel
theorem dX10_owes_27 : decode cX10_owes 27 = .ok (.aload_n 0, 1) := by decide +kernel
theorem dX10_owes_28 : decode cX10_owes 28 = .ok (.getfield 65, 3) := by decide +kernel
theorem dX10_owes_31 : decode cX10_owes 31 = .ok (.aload_n 0, 1) := by decide +kernel
theorem dX10_owes_32 : decode cX10_owes 32 = .ok (.getfield 12, 3) := by decide +kernel
theorem dX10_owes_35 : decode cX10_owes 35 = .ok (.aload_n 0, 1) := by decide +kernel
theorem dX10_owes_36 : decode cX10_owes 36 = .ok (.getfield 58, 3) := by decide +kernel
theorem dX10_owes_39 : decode cX10_owes 39 = .ok (.invokevirtual 260, 3) := by decide +kernel
theorem dX10_owes_42 : decode cX10_owes 42 = .ok (.ifCond .ne 5, 3) := by decide +kernel
theorem dX10_owes_45 : decode cX10_owes 45 = .ok (.iconst (-1), 1) := by decide +kernel
theorem dX10_owes_46 : decode cX10_owes 46 = .ok (.ireturn, 1) := by decide +kernel
theorem dX10_owes_47 : decode cX10_owes 47 = .ok (.aload_n 0, 1) := by decide +kernel
theorem dX10_owes_48 : decode cX10_owes 48 = .ok (.getfield 65, 3) := by decide +kernel
theorem dX10_owes_51 : decode cX10_owes 51 = .ok (.getfield 264, 3) := by decide +kernel
theorem dX10_owes_54 : decode cX10_owes 54 = .ok (.iload_n 1, 1) := by decide +kernel
theorem dX10_owes_55 : decode cX10_owes 55 = .ok (.bipush 6, 2) := by decide +kernel
theorem dX10_owes_57 : decode cX10_owes 57 = .ok (.imul, 1) := by decide +kernel
theorem dX10_owes_58 : decode cX10_owes 58 = .ok (.iload_n 2, 1) := by decide +kernel
theorem dX10_owes_59 : decode cX10_owes 59 = .ok (.iadd, 1) := by decide +kernel
theorem dX10_owes_60 : decode cX10_owes 60 = .ok (.iaload, 1) := by decide +kernel
theorem dX10_owes_61 : decode cX10_owes 61 = .ok (.ireturn, 1) := by decide +kernel
theorem dX10_settled_0 : decode cX10_settled 0 = .ok (.aload_n 0, 1) := by decide +kernel
theorem dX10_settled_1 : decode cX10_settled 1 = .ok (.getfield 65, 3) := by decide +kernel
theorem dX10_settled_4 : decode cX10_settled 4 = .ok (.aload_n 0, 1) := by decide +kernel
theorem dX10_settled_5 : decode cX10_settled 5 = .ok (.getfield 12, 3) := by decide +kernel
theorem dX10_settled_8 : decode cX10_settled 8 = .ok (.aload_n 0, 1) := by decide +kernel
theorem dX10_settled_9 : decode cX10_settled 9 = .ok (.getfield 58, 3) := by decide +kernel
theorem dX10_settled_12 : decode cX10_settled 12 = .ok (.invokevirtual 260, 3) := by decide +kernel
theorem dX10_settled_15 : decode cX10_settled 15 = .ok (.ifCond .eq 20, 3) := by decide +kernel
theorem dX10_settled_18 : decode cX10_settled 18 = .ok (.aload_n 0, 1) := by decide +kernel
theorem dX10_settled_19 : decode cX10_settled 19 = .ok (.getfield 65, 3) := by decide +kernel
theorem dX10_settled_22 : decode cX10_settled 22 = .ok (.aload_n 0, 1) := by decide +kernel
theorem dX10_settled_23 : decode cX10_settled 23 = .ok (.getfield 12, 3) := by decide +kernel
theorem dX10_settled_26 : decode cX10_settled 26 = .ok (.getfield 95, 3) := by decide +kernel
theorem dX10_settled_29 : decode cX10_settled 29 = .ok (.invokevirtual 267, 3) := by decide +kernel
theorem dX10_settled_32 : decode cX10_settled 32 = .ok (.goto 4, 3) := by decide +kernel
theorem dX10_settled_35 : decode cX10_settled 35 = .ok (.iconst (-1), 1) := by decide +kernel
theorem dX10_settled_36 : decode cX10_settled 36 = .ok (.ireturn, 1) := by decide +kernel
theorem dX10_few_0 : decode cX10_few 0 = .ok (.iload_n 1, 1) := by decide +kernel
theorem dX10_few_1 : decode cX10_few 1 = .ok (.iconst 1, 1) := by decide +kernel
theorem dX10_few_2 : decode cX10_few 2 = .ok (.if_icmp .lt 19, 3) := by decide +kernel
theorem dX10_few_5 : decode cX10_few 5 = .ok (.iload_n 1, 1) := by decide +kernel
theorem dX10_few_6 : decode cX10_few 6 = .ok (.bipush 20, 2) := by decide +kernel
theorem dX10_few_8 : decode cX10_few 8 = .ok (.if_icmp .gt 13, 3) := by decide +kernel
theorem dX10_few_11 : decode cX10_few 11 = .ok (.iload_n 2, 1) := by decide +kernel
theorem dX10_few_12 : decode cX10_few 12 = .ok (.ifCond .lt 9, 3) := by decide +kernel
theorem dX10_few_15 : decode cX10_few 15 = .ok (.iload_n 2, 1) := by decide +kernel
theorem dX10_few_16 : decode cX10_few 16 = .ok (.bipush 99, 2) := by decide +kernel
theorem dX10_few_18 : decode cX10_few 18 = .ok (.if_icmp .le 7, 3) := by decide +kernel
theorem dX10_few_21 : decode cX10_few 21 = .ok (.ldc2_w 270, 3) := by decide +kernel
theorem dX10_few_24 : decode cX10_few 24 = .ok (.lreturn, 1) := by decide +kernel
theorem dX10_few_25 : decode cX10_few 25 = .ok (.aload_n 0, 1) := by decide +kernel
theorem dX10_few_26 : decode cX10_few 26 = .ok (.getfield 12, 3) := by decide +kernel
theorem dX10_few_29 : decode cX10_few 29 = .ok (.getfield 144, 3) := by decide +kernel
theorem dX10_few_32 : decode cX10_few 32 = .ok (.iconst 1, 1) := by decide +kernel
theorem dX10_few_33 : decode cX10_few 33 = .ok (.iaload, 1) := by decide +kernel
theorem dX10_few_34 : decode cX10_few 34 = .ok (.istore_n 3, 1) := by decide +kernel
theorem dX10_few_35 : decode cX10_few 35 = .ok (.aload_n 0, 1) := by decide +kernel
theorem dX10_few_36 : decode cX10_few 36 = .ok (.getfield 83, 3) := by decide +kernel
theorem dX10_few_39 : decode cX10_few 39 = .ok (.lconst 0, 1) := by decide +kernel
theorem dX10_few_40 : decode cX10_few 40 = .ok (.invokestatic 272, 3) := by decide +kernel
theorem dX10_few_43 : decode cX10_few 43 = .ok (.aload_n 0, 1) := by decide +kernel
theorem dX10_few_44 : decode cX10_few 44 = .ok (.getfield 83, 3) := by decide +kernel
theorem dX10_few_47 : decode cX10_few 47 = .ok (.iconst 0, 1) := by decide +kernel
theorem dX10_few_48 : decode cX10_few 48 = .ok (.ldc2_w 278, 3) := by decide +kernel
theorem dX10_few_51 : decode cX10_few 51 = .ok (.lastore, 1) := by decide +kernel
theorem dX10_few_52 : decode cX10_few 52 = .ok (.iconst 0, 1) := by decide +kernel
theorem dX10_few_53 : decode cX10_few 53 = .ok (.istore 4, 2) := by decide +kernel
theorem dX10_few_55 : decode cX10_few 55 = .ok (.iload 4, 2) := by decide +kernel
theorem dX10_few_57 : decode cX10_few 57 = .ok (.iload_n 2, 1) := by decide +kernel
theorem dX10_few_58 : decode cX10_few 58 = .ok (.if_icmp .ge 88, 3) := by decide +kernel
theorem dX10_few_61 : decode cX10_few 61 = .ok (.iload_n 1, 1) := by decide +kernel
theorem dX10_few_62 : decode cX10_few 62 = .ok (.iconst 1, 1) := by decide +kernel
theorem dX10_few_63 : decode cX10_few 63 = .ok (.isub, 1) := by decide +kernel
theorem dX10_few_64 : decode cX10_few 64 = .ok (.istore 5, 2) := by decide +kernel
theorem dX10_few_66 : decode cX10_few 66 = .ok (.iload 5, 2) := by decide +kernel
theorem dX10_few_68 : decode cX10_few 68 = .ok (.ifCond .le 50, 3) := by decide +kernel
theorem dX10_few_71 : decode cX10_few 71 = .ok (.aload_n 0, 1) := by decide +kernel
theorem dX10_few_72 : decode cX10_few 72 = .ok (.getfield 83, 3) := by decide +kernel
theorem dX10_few_75 : decode cX10_few 75 = .ok (.iload 5, 2) := by decide +kernel
theorem dX10_few_77 : decode cX10_few 77 = .ok (.aload_n 0, 1) := by decide +kernel
theorem dX10_few_78 : decode cX10_few 78 = .ok (.getfield 83, 3) := by decide +kernel
theorem dX10_few_81 : decode cX10_few 81 = .ok (.iload 5, 2) := by decide +kernel
theorem dX10_few_83 : decode cX10_few 83 = .ok (.laload, 1) := by decide +kernel
theorem dX10_few_84 : decode cX10_few 84 = .ok (.bipush 10, 2) := by decide +kernel
theorem dX10_few_86 : decode cX10_few 86 = .ok (.iload_n 3, 1) := by decide +kernel
theorem dX10_few_87 : decode cX10_few 87 = .ok (.isub, 1) := by decide +kernel
theorem dX10_few_88 : decode cX10_few 88 = .ok (.i2l, 1) := by decide +kernel
theorem dX10_few_89 : decode cX10_few 89 = .ok (.lmul, 1) := by decide +kernel
theorem dX10_few_90 : decode cX10_few 90 = .ok (.ldc2_w 280, 3) := by decide +kernel
theorem dX10_few_93 : decode cX10_few 93 = .ok (.ldiv, 1) := by decide +kernel
theorem dX10_few_94 : decode cX10_few 94 = .ok (.aload_n 0, 1) := by decide +kernel
theorem dX10_few_95 : decode cX10_few 95 = .ok (.getfield 83, 3) := by decide +kernel
theorem dX10_few_98 : decode cX10_few 98 = .ok (.iload 5, 2) := by decide +kernel
theorem dX10_few_100 : decode cX10_few 100 = .ok (.iconst 1, 1) := by decide +kernel
theorem dX10_few_101 : decode cX10_few 101 = .ok (.isub, 1) := by decide +kernel
theorem dX10_few_102 : decode cX10_few 102 = .ok (.laload, 1) := by decide +kernel
theorem dX10_few_103 : decode cX10_few 103 = .ok (.iload_n 3, 1) := by decide +kernel
theorem dX10_few_104 : decode cX10_few 104 = .ok (.i2l, 1) := by decide +kernel
theorem dX10_few_105 : decode cX10_few 105 = .ok (.lmul, 1) := by decide +kernel
theorem dX10_few_106 : decode cX10_few 106 = .ok (.ldc2_w 280, 3) := by decide +kernel
theorem dX10_few_109 : decode cX10_few 109 = .ok (.ldiv, 1) := by decide +kernel
theorem dX10_few_110 : decode cX10_few 110 = .ok (.ladd, 1) := by decide +kernel
theorem dX10_few_111 : decode cX10_few 111 = .ok (.lastore, 1) := by decide +kernel
theorem dX10_few_112 : decode cX10_few 112 = .ok (.iinc 5 (-1), 3) := by decide +kernel
theorem dX10_few_115 : decode cX10_few 115 = .ok (.goto (-49), 3) := by decide +kernel
theorem dX10_few_118 : decode cX10_few 118 = .ok (.aload_n 0, 1) := by decide +kernel
theorem dX10_few_119 : decode cX10_few 119 = .ok (.getfield 83, 3) := by decide +kernel
theorem dX10_few_122 : decode cX10_few 122 = .ok (.iconst 0, 1) := by decide +kernel
theorem dX10_few_123 : decode cX10_few 123 = .ok (.aload_n 0, 1) := by decide +kernel
theorem dX10_few_124 : decode cX10_few 124 = .ok (.getfield 83, 3) := by decide +kernel
theorem dX10_few_127 : decode cX10_few 127 = .ok (.iconst 0, 1) := by decide +kernel
theorem dX10_few_128 : decode cX10_few 128 = .ok (.laload, 1) := by decide +kernel
theorem dX10_few_129 : decode cX10_few 129 = .ok (.bipush 10, 2) := by decide +kernel
theorem dX10_few_131 : decode cX10_few 131 = .ok (.iload_n 3, 1) := by decide +kernel
theorem dX10_few_132 : decode cX10_few 132 = .ok (.isub, 1) := by decide +kernel
theorem dX10_few_133 : decode cX10_few 133 = .ok (.i2l, 1) := by decide +kernel
theorem dX10_few_134 : decode cX10_few 134 = .ok (.lmul, 1) := by decide +kernel
theorem dX10_few_135 : decode cX10_few 135 = .ok (.ldc2_w 280, 3) := by decide +kernel
theorem dX10_few_138 : decode cX10_few 138 = .ok (.ldiv, 1) := by decide +kernel
theorem dX10_few_139 : decode cX10_few 139 = .ok (.lastore, 1) := by decide +kernel
theorem dX10_few_140 : decode cX10_few 140 = .ok (.iinc 4 1, 3) := by decide +kernel
theorem dX10_few_143 : decode cX10_few 143 = .ok (.goto (-88), 3) := by decide +kernel
theorem dX10_few_146 : decode cX10_few 146 = .ok (.lconst 0, 1) := by decide +kernel
theorem dX10_few_147 : decode cX10_few 147 = .ok (.lstore 4, 2) := by decide +kernel
theorem dX10_few_149 : decode cX10_few 149 = .ok (.iconst 0, 1) := by decide +kernel
theorem dX10_few_150 : decode cX10_few 150 = .ok (.istore 6, 2) := by decide +kernel
theorem dX10_few_152 : decode cX10_few 152 = .ok (.iload 6, 2) := by decide +kernel
theorem dX10_few_154 : decode cX10_few 154 = .ok (.iload_n 1, 1) := by decide +kernel
theorem dX10_few_155 : decode cX10_few 155 = .ok (.if_icmp .ge 21, 3) := by decide +kernel
theorem dX10_few_158 : decode cX10_few 158 = .ok (.lload 4, 2) := by decide +kernel
theorem dX10_few_160 : decode cX10_few 160 = .ok (.aload_n 0, 1) := by decide +kernel
theorem dX10_few_161 : decode cX10_few 161 = .ok (.getfield 83, 3) := by decide +kernel
theorem dX10_few_164 : decode cX10_few 164 = .ok (.iload 6, 2) := by decide +kernel
theorem dX10_few_166 : decode cX10_few 166 = .ok (.laload, 1) := by decide +kernel
theorem dX10_few_167 : decode cX10_few 167 = .ok (.ladd, 1) := by decide +kernel
theorem dX10_few_168 : decode cX10_few 168 = .ok (.lstore 4, 2) := by decide +kernel
theorem dX10_few_170 : decode cX10_few 170 = .ok (.iinc 6 1, 3) := by decide +kernel
theorem dX10_few_173 : decode cX10_few 173 = .ok (.goto (-21), 3) := by decide +kernel
theorem dX10_few_176 : decode cX10_few 176 = .ok (.lload 4, 2) := by decide +kernel
theorem dX10_few_178 : decode cX10_few 178 = .ok (.lreturn, 1) := by decide +kernel
theorem dX10_compare_0 : decode cX10_compare 0 = .ok (.iload_n 1, 1) := by decide +kernel
theorem dX10_compare_1 : decode cX10_compare 1 = .ok (.iconst (-1), 1) := by decide +kernel
theorem dX10_compare_2 : decode cX10_compare 2 = .ok (.if_icmp .eq 16, 3) := by decide +kernel
theorem dX10_compare_5 : decode cX10_compare 5 = .ok (.aload_n 0, 1) := by decide +kernel
theorem dX10_compare_6 : decode cX10_compare 6 = .ok (.getfield 12, 3) := by decide +kernel
theorem dX10_compare_9 : decode cX10_compare 9 = .ok (.iload_n 1, 1) := by decide +kernel
theorem dX10_compare_10 : decode cX10_compare 10 = .ok (.invokevirtual 191, 3) := by decide +kernel
theorem dX10_compare_13 : decode cX10_compare 13 = .ok (.ifCond .ne 5, 3) := by decide +kernel
theorem dX10_compare_16 : decode cX10_compare 16 = .ok (.iconst (-1), 1) := by decide +kernel
theorem dX10_compare_17 : decode cX10_compare 17 = .ok (.ireturn, 1) := by decide +kernel
theorem dX10_compare_18 : decode cX10_compare 18 = .ok (.aload_n 0, 1) := by decide +kernel
theorem dX10_compare_19 : decode cX10_compare 19 = .ok (.getfield 16, 3) := by decide +kernel
theorem dX10_compare_22 : decode cX10_compare 22 = .ok (.aload_n 0, 1) := by decide +kernel
theorem dX10_compare_23 : decode cX10_compare 23 = .ok (.getfield 12, 3) := by decide +kernel
theorem dX10_compare_26 : decode cX10_compare 26 = .ok (.invokevirtual 282, 3) := by decide +kernel
theorem dX10_compare_29 : decode cX10_compare 29 = .ok (.aload_n 0, 1) := by decide +kernel
theorem dX10_compare_30 : decode cX10_compare 30 = .ok (.getfield 16, 3) := by decide +kernel
theorem dX10_compare_33 : decode cX10_compare 33 = .ok (.iload_n 1, 1) := by decide +kernel
theorem dX10_compare_34 : decode cX10_compare 34 = .ok (.putfield 194, 3) := by decide +kernel
theorem dX10_compare_37 : decode cX10_compare 37 = .ok (.aload_n 0, 1) := by decide +kernel
theorem dX10_compare_38 : decode cX10_compare 38 = .ok (.getfield 58, 3) := by decide +kernel
theorem dX10_compare_41 : decode cX10_compare 41 = .ok (.aload_n 0, 1) := by decide +kernel
theorem dX10_compare_42 : decode cX10_compare 42 = .ok (.getfield 16, 3) := by decide +kernel
theorem dX10_compare_45 : decode cX10_compare 45 = .ok (.invokevirtual 208, 3) := by decide +kernel
theorem dX10_compare_48 : decode cX10_compare 48 = .ok (.ireturn, 1) := by decide +kernel
theorem dX10_evenings_0 : decode cX10_evenings 0 = .ok (.iload_n 1, 1) := by decide +kernel
theorem dX10_evenings_1 : decode cX10_evenings 1 = .ok (.ifCond .lt 21, 3) := by decide +kernel
theorem dX10_evenings_4 : decode cX10_evenings 4 = .ok (.iload_n 1, 1) := by decide +kernel
theorem dX10_evenings_5 : decode cX10_evenings 5 = .ok (.ldc_w 286, 3) := by decide +kernel
theorem dX10_evenings_8 : decode cX10_evenings 8 = .ok (.if_icmp .gt 14, 3) := by decide +kernel
theorem dX10_evenings_11 : decode cX10_evenings 11 = .ok (.iload_n 2, 1) := by decide +kernel
theorem dX10_evenings_12 : decode cX10_evenings 12 = .ok (.iconst 1, 1) := by decide +kernel
theorem dX10_evenings_13 : decode cX10_evenings 13 = .ok (.if_icmp .lt 9, 3) := by decide +kernel
theorem dX10_evenings_16 : decode cX10_evenings 16 = .ok (.iload_n 2, 1) := by decide +kernel
theorem dX10_evenings_17 : decode cX10_evenings 17 = .ok (.bipush 60, 2) := by decide +kernel
theorem dX10_evenings_19 : decode cX10_evenings 19 = .ok (.if_icmp .le 9, 3) := by decide +kernel
theorem dX10_evenings_22 : decode cX10_evenings 22 = .ok (.aload_n 0, 1) := by decide +kernel
theorem dX10_evenings_23 : decode cX10_evenings 23 = .ok (.iconst (-1), 1) := by decide +kernel
theorem dX10_evenings_24 : decode cX10_evenings 24 = .ok (.invokevirtual 91, 3) := by decide +kernel
theorem dX10_evenings_27 : decode cX10_evenings 27 = .ok (.ireturn, 1) := by decide +kernel
theorem dX10_evenings_28 : decode cX10_evenings 28 = .ok (.aload_n 0, 1) := by decide +kernel
theorem dX10_evenings_29 : decode cX10_evenings 29 = .ok (.getfield 12, 3) := by decide +kernel
theorem dX10_evenings_32 : decode cX10_evenings 32 = .ok (.getfield 95, 3) := by decide +kernel
theorem dX10_evenings_35 : decode cX10_evenings 35 = .ok (.ifCond .ne 10, 3) := by decide +kernel
theorem dX10_evenings_38 : decode cX10_evenings 38 = .ok (.aload_n 0, 1) := by decide +kernel
theorem dX10_evenings_39 : decode cX10_evenings 39 = .ok (.bipush (-3), 2) := by decide +kernel
theorem dX10_evenings_41 : decode cX10_evenings 41 = .ok (.invokevirtual 91, 3) := by decide +kernel
theorem dX10_evenings_44 : decode cX10_evenings 44 = .ok (.ireturn, 1) := by decide +kernel
theorem dX10_evenings_45 : decode cX10_evenings 45 = .ok (.aload_n 0, 1) := by decide +kernel
theorem dX10_evenings_46 : decode cX10_evenings 46 = .ok (.getfield 19, 3) := by decide +kernel
theorem dX10_evenings_49 : decode cX10_evenings 49 = .ok (.aload_n 0, 1) := by decide +kernel
theorem dX10_evenings_50 : decode cX10_evenings 50 = .ok (.getfield 12, 3) := by decide +kernel
theorem dX10_evenings_53 : decode cX10_evenings 53 = .ok (.invokevirtual 282, 3) := by decide +kernel
theorem dX10_evenings_56 : decode cX10_evenings 56 = .ok (.aload_n 0, 1) := by decide +kernel
theorem dX10_evenings_57 : decode cX10_evenings 57 = .ok (.iconst 1, 1) := by decide +kernel
theorem dX10_evenings_58 : decode cX10_evenings 58 = .ok (.putfield 287, 3) := by decide +kernel
theorem dX10_evenings_61 : decode cX10_evenings 61 = .ok (.iload_n 1, 1) := by decide +kernel
theorem dX10_evenings_62 : decode cX10_evenings 62 = .ok (.istore_n 3, 1) := by decide +kernel
theorem dX10_evenings_63 : decode cX10_evenings 63 = .ok (.iconst 0, 1) := by decide +kernel
theorem dX10_evenings_64 : decode cX10_evenings 64 = .ok (.istore 4, 2) := by decide +kernel
theorem dX10_evenings_66 : decode cX10_evenings 66 = .ok (.iconst 0, 1) := by decide +kernel
theorem dX10_evenings_67 : decode cX10_evenings 67 = .ok (.istore 5, 2) := by decide +kernel
theorem dX10_evenings_69 : decode cX10_evenings 69 = .ok (.iload 5, 2) := by decide +kernel
theorem dX10_evenings_71 : decode cX10_evenings 71 = .ok (.iload_n 2, 1) := by decide +kernel
theorem dX10_evenings_72 : decode cX10_evenings 72 = .ok (.if_icmp .ge 49, 3) := by decide +kernel
theorem dX10_evenings_75 : decode cX10_evenings 75 = .ok (.aload_n 0, 1) := by decide +kernel
theorem dX10_evenings_76 : decode cX10_evenings 76 = .ok (.getfield 19, 3) := by decide +kernel
theorem dX10_evenings_79 : decode cX10_evenings 79 = .ok (.getfield 144, 3) := by decide +kernel
theorem dX10_evenings_82 : decode cX10_evenings 82 = .ok (.iconst 0, 1) := by decide +kernel
theorem dX10_evenings_83 : decode cX10_evenings 83 = .ok (.iaload, 1) := by decide +kernel
theorem dX10_evenings_84 : decode cX10_evenings 84 = .ok (.sipush 999, 3) := by decide +kernel
theorem dX10_evenings_87 : decode cX10_evenings 87 = .ok (.if_icmp .ge 34, 3) := by decide +kernel
theorem dX10_evenings_90 : decode cX10_evenings 90 = .ok (.aload_n 0, 1) := by decide +kernel
theorem dX10_evenings_91 : decode cX10_evenings 91 = .ok (.iload_n 3, 1) := by decide +kernel
theorem dX10_evenings_92 : decode cX10_evenings 92 = .ok (.invokevirtual 290, 3) := by decide +kernel
theorem dX10_evenings_95 : decode cX10_evenings 95 = .ok (.istore_n 3, 1) := by decide +kernel
theorem dX10_evenings_96 : decode cX10_evenings 96 = .ok (.aload_n 0, 1) := by decide +kernel
theorem dX10_evenings_97 : decode cX10_evenings 97 = .ok (.getfield 58, 3) := by decide +kernel
theorem dX10_evenings_100 : decode cX10_evenings 100 = .ok (.aload_n 0, 1) := by decide +kernel
theorem dX10_evenings_101 : decode cX10_evenings 101 = .ok (.getfield 19, 3) := by decide +kernel
theorem dX10_evenings_104 : decode cX10_evenings 104 = .ok (.invokevirtual 205, 3) := by decide +kernel
theorem dX10_evenings_107 : decode cX10_evenings 107 = .ok (.bipush 16, 2) := by decide +kernel
theorem dX10_evenings_109 : decode cX10_evenings 109 = .ok (.if_icmp .ne 6, 3) := by decide +kernel
theorem dX10_evenings_112 : decode cX10_evenings 112 = .ok (.iinc 4 1, 3) := by decide +kernel
theorem dX10_evenings_115 : decode cX10_evenings 115 = .ok (.iinc 5 1, 3) := by decide +kernel
theorem dX10_evenings_118 : decode cX10_evenings 118 = .ok (.goto (-49), 3) := by decide +kernel
theorem dX10_evenings_121 : decode cX10_evenings 121 = .ok (.aload_n 0, 1) := by decide +kernel
theorem dX10_evenings_122 : decode cX10_evenings 122 = .ok (.iload 4, 2) := by decide +kernel
theorem dX10_evenings_124 : decode cX10_evenings 124 = .ok (.invokevirtual 108, 3) := by decide +kernel
theorem dX10_evenings_127 : decode cX10_evenings 127 = .ok (.ireturn, 1) := by decide +kernel
theorem dX10_drawn_0 : decode cX10_drawn 0 = .ok (.aload_n 0, 1) := by decide +kernel
theorem dX10_drawn_1 : decode cX10_drawn 1 = .ok (.getfield 287, 3) := by decide +kernel
theorem dX10_drawn_4 : decode cX10_drawn 4 = .ok (.ifCond .ne 5, 3) := by decide +kernel
theorem dX10_drawn_7 : decode cX10_drawn 7 = .ok (.iconst (-1), 1) := by decide +kernel
theorem dX10_drawn_8 : decode cX10_drawn 8 = .ok (.ireturn, 1) := by decide +kernel
theorem dX10_drawn_9 : decode cX10_drawn 9 = .ok (.iload_n 2, 1) := by decide +kernel
theorem dX10_drawn_10 : decode cX10_drawn 10 = .ok (.ifCond .ne 20, 3) := by decide +kernel
theorem dX10_drawn_13 : decode cX10_drawn 13 = .ok (.iload_n 1, 1) := by decide +kernel
theorem dX10_drawn_14 : decode cX10_drawn 14 = .ok (.invokestatic 124, 3) := by decide +kernel
theorem dX10_drawn_17 : decode cX10_drawn 17 = .ok (.ifCond .eq 13, 3) := by decide +kernel
theorem dX10_drawn_20 : decode cX10_drawn 20 = .ok (.aload_n 0, 1) := by decide +kernel
theorem dX10_drawn_21 : decode cX10_drawn 21 = .ok (.getfield 19, 3) := by decide +kernel
theorem dX10_drawn_24 : decode cX10_drawn 24 = .ok (.getfield 127, 3) := by decide +kernel
theorem dX10_drawn_27 : decode cX10_drawn 27 = .ok (.iload_n 1, 1) := by decide +kernel
theorem dX10_drawn_28 : decode cX10_drawn 28 = .ok (.iaload, 1) := by decide +kernel
theorem dX10_drawn_29 : decode cX10_drawn 29 = .ok (.ireturn, 1) := by decide +kernel
theorem dX10_drawn_30 : decode cX10_drawn 30 = .ok (.iload_n 2, 1) := by decide +kernel
theorem dX10_drawn_31 : decode cX10_drawn 31 = .ok (.iconst 1, 1) := by decide +kernel
theorem dX10_drawn_32 : decode cX10_drawn 32 = .ok (.if_icmp .ne 22, 3) := by decide +kernel
theorem dX10_drawn_35 : decode cX10_drawn 35 = .ok (.iload_n 1, 1) := by decide +kernel
theorem dX10_drawn_36 : decode cX10_drawn 36 = .ok (.invokestatic 118, 3) := by decide +kernel
theorem dX10_drawn_39 : decode cX10_drawn 39 = .ok (.ifCond .eq 15, 3) := by decide +kernel
theorem dX10_drawn_42 : decode cX10_drawn 42 = .ok (.aload_n 0, 1) := by decide +kernel
theorem dX10_drawn_43 : decode cX10_drawn 43 = .ok (.getfield 19, 3) := by decide +kernel
theorem dX10_drawn_46 : decode cX10_drawn 46 = .ok (.getfield 121, 3) := by decide +kernel
theorem dX10_drawn_49 : decode cX10_drawn 49 = .ok (.iload_n 1, 1) := by decide +kernel
theorem dX10_drawn_50 : decode cX10_drawn 50 = .ok (.iaload, 1) := by decide +kernel
theorem dX10_drawn_51 : decode cX10_drawn 51 = .ok (.goto 4, 3) := by decide +kernel
theorem dX10_drawn_54 : decode cX10_drawn 54 = .ok (.iconst (-1), 1) := by decide +kernel
theorem dX10_drawn_55 : decode cX10_drawn 55 = .ok (.ireturn, 1) := by decide +kernel
theorem dX10_image_0 : decode cX10_image 0 = .ok (.iload_n 1, 1) := by decide +kernel
theorem dX10_image_1 : decode cX10_image 1 = .ok (.ifCond .lt 8, 3) := by decide +kernel
theorem dX10_image_4 : decode cX10_image 4 = .ok (.iload_n 1, 1) := by decide +kernel
theorem dX10_image_5 : decode cX10_image 5 = .ok (.iconst 2, 1) := by decide +kernel
theorem dX10_image_6 : decode cX10_image 6 = .ok (.if_icmp .lt 9, 3) := by decide +kernel
theorem dX10_image_9 : decode cX10_image 9 = .ok (.aload_n 0, 1) := by decide +kernel
theorem dX10_image_10 : decode cX10_image 10 = .ok (.iconst (-1), 1) := by decide +kernel
theorem dX10_image_11 : decode cX10_image 11 = .ok (.invokevirtual 91, 3) := by decide +kernel
theorem dX10_image_14 : decode cX10_image 14 = .ok (.ireturn, 1) := by decide +kernel
theorem dX10_image_15 : decode cX10_image 15 = .ok (.aload_n 0, 1) := by decide +kernel
theorem dX10_image_16 : decode cX10_image 16 = .ok (.getfield 22, 3) := by decide +kernel
theorem dX10_image_19 : decode cX10_image 19 = .ok (.iload_n 1, 1) := by decide +kernel
theorem dX10_image_20 : decode cX10_image 20 = .ok (.aaload, 1) := by decide +kernel
theorem dX10_image_21 : decode cX10_image 21 = .ok (.aload_n 0, 1) := by decide +kernel
theorem dX10_image_22 : decode cX10_image 22 = .ok (.getfield 12, 3) := by decide +kernel
theorem dX10_image_25 : decode cX10_image 25 = .ok (.invokevirtual 282, 3) := by decide +kernel
theorem dX10_image_28 : decode cX10_image 28 = .ok (.aload_n 0, 1) := by decide +kernel
theorem dX10_image_29 : decode cX10_image 29 = .ok (.getfield 26, 3) := by decide +kernel
theorem dX10_image_32 : decode cX10_image 32 = .ok (.iload_n 1, 1) := by decide +kernel
theorem dX10_image_33 : decode cX10_image 33 = .ok (.iconst 1, 1) := by decide +kernel
theorem dX10_image_34 : decode cX10_image 34 = .ok (.bastore, 1) := by decide +kernel
theorem dX10_image_35 : decode cX10_image 35 = .ok (.aload_n 0, 1) := by decide +kernel
theorem dX10_image_36 : decode cX10_image 36 = .ok (.iconst 0, 1) := by decide +kernel
theorem dX10_image_37 : decode cX10_image 37 = .ok (.invokevirtual 108, 3) := by decide +kernel
theorem dX10_image_40 : decode cX10_image 40 = .ok (.ireturn, 1) := by decide +kernel
theorem dX10_back_0 : decode cX10_back 0 = .ok (.iload_n 1, 1) := by decide +kernel
theorem dX10_back_1 : decode cX10_back 1 = .ok (.ifCond .lt 8, 3) := by decide +kernel
theorem dX10_back_4 : decode cX10_back 4 = .ok (.iload_n 1, 1) := by decide +kernel
theorem dX10_back_5 : decode cX10_back 5 = .ok (.iconst 2, 1) := by decide +kernel
theorem dX10_back_6 : decode cX10_back 6 = .ok (.if_icmp .lt 9, 3) := by decide +kernel
theorem dX10_back_9 : decode cX10_back 9 = .ok (.aload_n 0, 1) := by decide +kernel
theorem dX10_back_10 : decode cX10_back 10 = .ok (.iconst (-1), 1) := by decide +kernel
theorem dX10_back_11 : decode cX10_back 11 = .ok (.invokevirtual 91, 3) := by decide +kernel
theorem dX10_back_14 : decode cX10_back 14 = .ok (.ireturn, 1) := by decide +kernel
theorem dX10_back_15 : decode cX10_back 15 = .ok (.aload_n 0, 1) := by decide +kernel
theorem dX10_back_16 : decode cX10_back 16 = .ok (.getfield 26, 3) := by decide +kernel
theorem dX10_back_19 : decode cX10_back 19 = .ok (.iload_n 1, 1) := by decide +kernel
theorem dX10_back_20 : decode cX10_back 20 = .ok (.baload, 1) := by decide +kernel
theorem dX10_back_21 : decode cX10_back 21 = .ok (.ifCond .ne 10, 3) := by decide +kernel
theorem dX10_back_24 : decode cX10_back 24 = .ok (.aload_n 0, 1) := by decide +kernel
theorem dX10_back_25 : decode cX10_back 25 = .ok (.bipush (-2), 2) := by decide +kernel
theorem dX10_back_27 : decode cX10_back 27 = .ok (.invokevirtual 91, 3) := by decide +kernel
theorem dX10_back_30 : decode cX10_back 30 = .ok (.ireturn, 1) := by decide +kernel
theorem dX10_back_31 : decode cX10_back 31 = .ok (.aload_n 0, 1) := by decide +kernel
theorem dX10_back_32 : decode cX10_back 32 = .ok (.getfield 12, 3) := by decide +kernel
theorem dX10_back_35 : decode cX10_back 35 = .ok (.aload_n 0, 1) := by decide +kernel
theorem dX10_back_36 : decode cX10_back 36 = .ok (.getfield 22, 3) := by decide +kernel
theorem dX10_back_39 : decode cX10_back 39 = .ok (.iload_n 1, 1) := by decide +kernel
theorem dX10_back_40 : decode cX10_back 40 = .ok (.aaload, 1) := by decide +kernel
theorem dX10_back_41 : decode cX10_back 41 = .ok (.invokevirtual 282, 3) := by decide +kernel
theorem dX10_back_44 : decode cX10_back 44 = .ok (.aload_n 0, 1) := by decide +kernel
theorem dX10_back_45 : decode cX10_back 45 = .ok (.getfield 72, 3) := by decide +kernel
theorem dX10_back_48 : decode cX10_back 48 = .ok (.invokevirtual 105, 3) := by decide +kernel
theorem dX10_back_51 : decode cX10_back 51 = .ok (.aload_n 0, 1) := by decide +kernel
theorem dX10_back_52 : decode cX10_back 52 = .ok (.iconst 0, 1) := by decide +kernel
theorem dX10_back_53 : decode cX10_back 53 = .ok (.invokevirtual 108, 3) := by decide +kernel
theorem dX10_back_56 : decode cX10_back 56 = .ok (.ireturn, 1) := by decide +kernel
theorem dX10_count_0 : decode cX10_count 0 = .ok (.iload_n 1, 1) := by decide +kernel
theorem dX10_count_1 : decode cX10_count 1 = .ok (.bipush 6, 2) := by decide +kernel
theorem dX10_count_3 : decode cX10_count 3 = .ok (.if_icmp .lt 19, 3) := by decide +kernel
theorem dX10_count_6 : decode cX10_count 6 = .ok (.iload_n 1, 1) := by decide +kernel
theorem dX10_count_7 : decode cX10_count 7 = .ok (.bipush 10, 2) := by decide +kernel
theorem dX10_count_9 : decode cX10_count 9 = .ok (.if_icmp .gt 13, 3) := by decide +kernel
theorem dX10_count_12 : decode cX10_count 12 = .ok (.aload_n 0, 1) := by decide +kernel
theorem dX10_count_13 : decode cX10_count 13 = .ok (.getfield 87, 3) := by decide +kernel
theorem dX10_count_16 : decode cX10_count 16 = .ok (.iload_n 1, 1) := by decide +kernel
theorem dX10_count_17 : decode cX10_count 17 = .ok (.bipush 6, 2) := by decide +kernel
theorem dX10_count_19 : decode cX10_count 19 = .ok (.isub, 1) := by decide +kernel
theorem dX10_count_20 : decode cX10_count 20 = .ok (.iaload, 1) := by decide +kernel
theorem dX10_count_21 : decode cX10_count 21 = .ok (.ireturn, 1) := by decide +kernel
theorem dX10_count_22 : decode cX10_count 22 = .ok (.iload_n 1, 1) := by decide +kernel
theorem dX10_count_23 : decode cX10_count 23 = .ok (.bipush 12, 2) := by decide +kernel
theorem dX10_count_25 : decode cX10_count 25 = .ok (.if_icmp .lt 22, 3) := by decide +kernel
theorem dX10_count_28 : decode cX10_count 28 = .ok (.iload_n 1, 1) := by decide +kernel
theorem dX10_count_29 : decode cX10_count 29 = .ok (.bipush 14, 2) := by decide +kernel
theorem dX10_count_31 : decode cX10_count 31 = .ok (.if_icmp .gt 16, 3) := by decide +kernel
theorem dX10_count_34 : decode cX10_count 34 = .ok (.aload_n 0, 1) := by decide +kernel
theorem dX10_count_35 : decode cX10_count 35 = .ok (.getfield 12, 3) := by decide +kernel
theorem dX10_count_38 : decode cX10_count 38 = .ok (.getfield 144, 3) := by decide +kernel
theorem dX10_count_41 : decode cX10_count 41 = .ok (.iload_n 1, 1) := by decide +kernel
theorem dX10_count_42 : decode cX10_count 42 = .ok (.bipush 12, 2) := by decide +kernel
theorem dX10_count_44 : decode cX10_count 44 = .ok (.isub, 1) := by decide +kernel
theorem dX10_count_45 : decode cX10_count 45 = .ok (.iaload, 1) := by decide +kernel
theorem dX10_count_46 : decode cX10_count 46 = .ok (.ireturn, 1) := by decide +kernel
theorem dX10_count_47 : decode cX10_count 47 = .ok (.iload_n 1, 1) := by decide +kernel
theorem dX10_count_48 : decode cX10_count 48 = .ok (.tableswitch 120 0 11 #[64, 72, 80, 88, 96, 104, 120, 120, 120, 120, 120, 112], 64) := by decide +kernel
theorem dX10_count_112 : decode cX10_count 112 = .ok (.aload_n 0, 1) := by decide +kernel
theorem dX10_count_113 : decode cX10_count 113 = .ok (.getfield 12, 3) := by decide +kernel
theorem dX10_count_116 : decode cX10_count 116 = .ok (.getfield 95, 3) := by decide +kernel
theorem dX10_count_119 : decode cX10_count 119 = .ok (.ireturn, 1) := by decide +kernel
theorem dX10_count_120 : decode cX10_count 120 = .ok (.aload_n 0, 1) := by decide +kernel
theorem dX10_count_121 : decode cX10_count 121 = .ok (.getfield 12, 3) := by decide +kernel
theorem dX10_count_124 : decode cX10_count 124 = .ok (.invokevirtual 293, 3) := by decide +kernel
theorem dX10_count_127 : decode cX10_count 127 = .ok (.ireturn, 1) := by decide +kernel
theorem dX10_count_128 : decode cX10_count 128 = .ok (.aload_n 0, 1) := by decide +kernel
theorem dX10_count_129 : decode cX10_count 129 = .ok (.getfield 12, 3) := by decide +kernel
theorem dX10_count_132 : decode cX10_count 132 = .ok (.getfield 246, 3) := by decide +kernel
theorem dX10_count_135 : decode cX10_count 135 = .ok (.ireturn, 1) := by decide +kernel
theorem dX10_count_136 : decode cX10_count 136 = .ok (.aload_n 0, 1) := by decide +kernel
theorem dX10_count_137 : decode cX10_count 137 = .ok (.getfield 12, 3) := by decide +kernel
theorem dX10_count_140 : decode cX10_count 140 = .ok (.getfield 160, 3) := by decide +kernel
theorem dX10_count_143 : decode cX10_count 143 = .ok (.ireturn, 1) := by decide +kernel
theorem dX10_count_144 : decode cX10_count 144 = .ok (.aload_n 0, 1) := by decide +kernel
theorem dX10_count_145 : decode cX10_count 145 = .ok (.getfield 72, 3) := by decide +kernel
theorem dX10_count_148 : decode cX10_count 148 = .ok (.getfield 297, 3) := by decide +kernel
theorem dX10_count_151 : decode cX10_count 151 = .ok (.ireturn, 1) := by decide +kernel
theorem dX10_count_152 : decode cX10_count 152 = .ok (.aload_n 0, 1) := by decide +kernel
theorem dX10_count_153 : decode cX10_count 153 = .ok (.getfield 33, 3) := by decide +kernel
theorem dX10_count_156 : decode cX10_count 156 = .ok (.getfield 147, 3) := by decide +kernel
theorem dX10_count_159 : decode cX10_count 159 = .ok (.ireturn, 1) := by decide +kernel
theorem dX10_count_160 : decode cX10_count 160 = .ok (.aload_n 0, 1) := by decide +kernel
theorem dX10_count_161 : decode cX10_count 161 = .ok (.getfield 12, 3) := by decide +kernel
theorem dX10_count_164 : decode cX10_count 164 = .ok (.getfield 194, 3) := by decide +kernel
theorem dX10_count_167 : decode cX10_count 167 = .ok (.ireturn, 1) := by decide +kernel
theorem dX10_count_168 : decode cX10_count 168 = .ok (.iconst (-1), 1) := by decide +kernel
theorem dX10_count_169 : decode cX10_count 169 = .ok (.ireturn, 1) := by decide +kernel
theorem dX10_status_0 : decode cX10_status 0 = .ok (.aload_n 0, 1) := by decide +kernel
theorem dX10_status_1 : decode cX10_status 1 = .ok (.getfield 300, 3) := by decide +kernel
theorem dX10_status_4 : decode cX10_status 4 = .ok (.ireturn, 1) := by decide +kernel
theorem dX10_refuse_0 : decode cX10_refuse 0 = .ok (.aload_n 0, 1) := by decide +kernel
theorem dX10_refuse_1 : decode cX10_refuse 1 = .ok (.iload_n 1, 1) := by decide +kernel
theorem dX10_refuse_2 : decode cX10_refuse 2 = .ok (.putfield 300, 3) := by decide +kernel
theorem dX10_refuse_5 : decode cX10_refuse 5 = .ok (.iload_n 1, 1) := by decide +kernel
theorem dX10_refuse_6 : decode cX10_refuse 6 = .ok (.tableswitch 86 (-5) (-1) #[73, 86, 60, 47, 34], 34) := by decide +kernel
theorem dX10_refuse_40 : decode cX10_refuse 40 = .ok (.aload_n 0, 1) := by decide +kernel
theorem dX10_refuse_41 : decode cX10_refuse 41 = .ok (.getfield 87, 3) := by decide +kernel
theorem dX10_refuse_44 : decode cX10_refuse 44 = .ok (.iconst 0, 1) := by decide +kernel
theorem dX10_refuse_45 : decode cX10_refuse 45 = .ok (.dup2, 1) := by decide +kernel
theorem dX10_refuse_46 : decode cX10_refuse 46 = .ok (.iaload, 1) := by decide +kernel
theorem dX10_refuse_47 : decode cX10_refuse 47 = .ok (.iconst 1, 1) := by decide +kernel
theorem dX10_refuse_48 : decode cX10_refuse 48 = .ok (.iadd, 1) := by decide +kernel
theorem dX10_refuse_49 : decode cX10_refuse 49 = .ok (.iastore, 1) := by decide +kernel
theorem dX10_refuse_50 : decode cX10_refuse 50 = .ok (.goto 52, 3) := by decide +kernel
theorem dX10_refuse_53 : decode cX10_refuse 53 = .ok (.aload_n 0, 1) := by decide +kernel
theorem dX10_refuse_54 : decode cX10_refuse 54 = .ok (.getfield 87, 3) := by decide +kernel
theorem dX10_refuse_57 : decode cX10_refuse 57 = .ok (.iconst 1, 1) := by decide +kernel
theorem dX10_refuse_58 : decode cX10_refuse 58 = .ok (.dup2, 1) := by decide +kernel
theorem dX10_refuse_59 : decode cX10_refuse 59 = .ok (.iaload, 1) := by decide +kernel
theorem dX10_refuse_60 : decode cX10_refuse 60 = .ok (.iconst 1, 1) := by decide +kernel
theorem dX10_refuse_61 : decode cX10_refuse 61 = .ok (.iadd, 1) := by decide +kernel
theorem dX10_refuse_62 : decode cX10_refuse 62 = .ok (.iastore, 1) := by decide +kernel
theorem dX10_refuse_63 : decode cX10_refuse 63 = .ok (.goto 39, 3) := by decide +kernel
theorem dX10_refuse_66 : decode cX10_refuse 66 = .ok (.aload_n 0, 1) := by decide +kernel
theorem dX10_refuse_67 : decode cX10_refuse 67 = .ok (.getfield 87, 3) := by decide +kernel
theorem dX10_refuse_70 : decode cX10_refuse 70 = .ok (.iconst 2, 1) := by decide +kernel
theorem dX10_refuse_71 : decode cX10_refuse 71 = .ok (.dup2, 1) := by decide +kernel
theorem dX10_refuse_72 : decode cX10_refuse 72 = .ok (.iaload, 1) := by decide +kernel
theorem dX10_refuse_73 : decode cX10_refuse 73 = .ok (.iconst 1, 1) := by decide +kernel
theorem dX10_refuse_74 : decode cX10_refuse 74 = .ok (.iadd, 1) := by decide +kernel
theorem dX10_refuse_75 : decode cX10_refuse 75 = .ok (.iastore, 1) := by decide +kernel
theorem dX10_refuse_76 : decode cX10_refuse 76 = .ok (.goto 26, 3) := by decide +kernel
theorem dX10_refuse_79 : decode cX10_refuse 79 = .ok (.aload_n 0, 1) := by decide +kernel
theorem dX10_refuse_80 : decode cX10_refuse 80 = .ok (.getfield 87, 3) := by decide +kernel
theorem dX10_refuse_83 : decode cX10_refuse 83 = .ok (.iconst 3, 1) := by decide +kernel
theorem dX10_refuse_84 : decode cX10_refuse 84 = .ok (.dup2, 1) := by decide +kernel
theorem dX10_refuse_85 : decode cX10_refuse 85 = .ok (.iaload, 1) := by decide +kernel
theorem dX10_refuse_86 : decode cX10_refuse 86 = .ok (.iconst 1, 1) := by decide +kernel
theorem dX10_refuse_87 : decode cX10_refuse 87 = .ok (.iadd, 1) := by decide +kernel
theorem dX10_refuse_88 : decode cX10_refuse 88 = .ok (.iastore, 1) := by decide +kernel
theorem dX10_refuse_89 : decode cX10_refuse 89 = .ok (.goto 13, 3) := by decide +kernel
theorem dX10_refuse_92 : decode cX10_refuse 92 = .ok (.aload_n 0, 1) := by decide +kernel
theorem dX10_refuse_93 : decode cX10_refuse 93 = .ok (.getfield 87, 3) := by decide +kernel
theorem dX10_refuse_96 : decode cX10_refuse 96 = .ok (.iconst 4, 1) := by decide +kernel
theorem dX10_refuse_97 : decode cX10_refuse 97 = .ok (.dup2, 1) := by decide +kernel
theorem dX10_refuse_98 : decode cX10_refuse 98 = .ok (.iaload, 1) := by decide +kernel
theorem dX10_refuse_99 : decode cX10_refuse 99 = .ok (.iconst 1, 1) := by decide +kernel
theorem dX10_refuse_100 : decode cX10_refuse 100 = .ok (.iadd, 1) := by decide +kernel
theorem dX10_refuse_101 : decode cX10_refuse 101 = .ok (.iastore, 1) := by decide +kernel
theorem dX10_refuse_102 : decode cX10_refuse 102 = .ok (.iload_n 1, 1) := by decide +kernel
theorem dX10_refuse_103 : decode cX10_refuse 103 = .ok (.ireturn, 1) := by decide +kernel
theorem dX10_accept_0 : decode cX10_accept 0 = .ok (.aload_n 0, 1) := by decide +kernel
theorem dX10_accept_1 : decode cX10_accept 1 = .ok (.iconst 0, 1) := by decide +kernel
theorem dX10_accept_2 : decode cX10_accept 2 = .ok (.putfield 300, 3) := by decide +kernel
theorem dX10_accept_5 : decode cX10_accept 5 = .ok (.iload_n 1, 1) := by decide +kernel
theorem dX10_accept_6 : decode cX10_accept 6 = .ok (.ireturn, 1) := by decide +kernel
theorem dX10_change_0 : decode cX10_change 0 = .ok (.aload_n 0, 1) := by decide +kernel
theorem dX10_change_1 : decode cX10_change 1 = .ok (.getfield 72, 3) := by decide +kernel
theorem dX10_change_4 : decode cX10_change 4 = .ok (.aload_n 0, 1) := by decide +kernel
theorem dX10_change_5 : decode cX10_change 5 = .ok (.getfield 12, 3) := by decide +kernel
theorem dX10_change_8 : decode cX10_change 8 = .ok (.iload_n 1, 1) := by decide +kernel
theorem dX10_change_9 : decode cX10_change 9 = .ok (.iload_n 2, 1) := by decide +kernel
theorem dX10_change_10 : decode cX10_change 10 = .ok (.iload_n 3, 1) := by decide +kernel
theorem dX10_change_11 : decode cX10_change 11 = .ok (.invokevirtual 303, 3) := by decide +kernel
theorem dX10_change_14 : decode cX10_change 14 = .ok (.istore 4, 2) := by decide +kernel
theorem dX10_change_16 : decode cX10_change 16 = .ok (.aload_n 0, 1) := by decide +kernel
theorem dX10_change_17 : decode cX10_change 17 = .ok (.getfield 72, 3) := by decide +kernel
theorem dX10_change_20 : decode cX10_change 20 = .ok (.invokevirtual 307, 3) := by decide +kernel
theorem dX10_change_23 : decode cX10_change 23 = .ok (.iload 4, 2) := by decide +kernel
theorem dX10_change_25 : decode cX10_change 25 = .ok (.ifCond .ge 12, 3) := by decide +kernel
theorem dX10_change_28 : decode cX10_change 28 = .ok (.aload_n 0, 1) := by decide +kernel
theorem dX10_change_29 : decode cX10_change 29 = .ok (.iload 4, 2) := by decide +kernel
theorem dX10_change_31 : decode cX10_change 31 = .ok (.invokevirtual 91, 3) := by decide +kernel
theorem dX10_change_34 : decode cX10_change 34 = .ok (.goto 9, 3) := by decide +kernel
theorem dX10_change_37 : decode cX10_change 37 = .ok (.aload_n 0, 1) := by decide +kernel
theorem dX10_change_38 : decode cX10_change 38 = .ok (.iload 4, 2) := by decide +kernel
theorem dX10_change_40 : decode cX10_change 40 = .ok (.invokevirtual 108, 3) := by decide +kernel
theorem dX10_change_43 : decode cX10_change 43 = .ok (.ireturn, 1) := by decide +kernel
theorem dX10_mindedIfShifted_0 : decode cX10_mindedIfShifted 0 = .ok (.aload_n 0, 1) := by decide +kernel
theorem dX10_mindedIfShifted_1 : decode cX10_mindedIfShifted 1 = .ok (.getfield 12, 3) := by decide +kernel
theorem dX10_mindedIfShifted_4 : decode cX10_mindedIfShifted 4 = .ok (.iload_n 1, 1) := by decide +kernel
theorem dX10_mindedIfShifted_5 : decode cX10_mindedIfShifted 5 = .ok (.invokevirtual 310, 3) := by decide +kernel
theorem dX10_mindedIfShifted_8 : decode cX10_mindedIfShifted 8 = .ok (.ifCond .ne 5, 3) := by decide +kernel
theorem dX10_mindedIfShifted_11 : decode cX10_mindedIfShifted 11 = .ok (.iconst (-1), 1) := by decide +kernel
theorem dX10_mindedIfShifted_12 : decode cX10_mindedIfShifted 12 = .ok (.ireturn, 1) := by decide +kernel
theorem dX10_mindedIfShifted_13 : decode cX10_mindedIfShifted 13 = .ok (.aload_n 0, 1) := by decide +kernel
theorem dX10_mindedIfShifted_14 : decode cX10_mindedIfShifted 14 = .ok (.getfield 16, 3) := by decide +kernel
theorem dX10_mindedIfShifted_17 : decode cX10_mindedIfShifted 17 = .ok (.aload_n 0, 1) := by decide +kernel
theorem dX10_mindedIfShifted_18 : decode cX10_mindedIfShifted 18 = .ok (.getfield 12, 3) := by decide +kernel
theorem dX10_mindedIfShifted_21 : decode cX10_mindedIfShifted 21 = .ok (.invokevirtual 282, 3) := by decide +kernel
theorem dX10_mindedIfShifted_24 : decode cX10_mindedIfShifted 24 = .ok (.aload_n 0, 1) := by decide +kernel
theorem dX10_mindedIfShifted_25 : decode cX10_mindedIfShifted 25 = .ok (.getfield 16, 3) := by decide +kernel
theorem dX10_mindedIfShifted_28 : decode cX10_mindedIfShifted 28 = .ok (.iload_n 1, 1) := by decide +kernel
theorem dX10_mindedIfShifted_29 : decode cX10_mindedIfShifted 29 = .ok (.invokevirtual 313, 3) := by decide +kernel
theorem dX10_mindedIfShifted_32 : decode cX10_mindedIfShifted 32 = .ok (.aload_n 0, 1) := by decide +kernel
theorem dX10_mindedIfShifted_33 : decode cX10_mindedIfShifted 33 = .ok (.getfield 58, 3) := by decide +kernel
theorem dX10_mindedIfShifted_36 : decode cX10_mindedIfShifted 36 = .ok (.aload_n 0, 1) := by decide +kernel
theorem dX10_mindedIfShifted_37 : decode cX10_mindedIfShifted 37 = .ok (.getfield 16, 3) := by decide +kernel
theorem dX10_mindedIfShifted_40 : decode cX10_mindedIfShifted 40 = .ok (.invokevirtual 208, 3) := by decide +kernel
theorem dX10_mindedIfShifted_43 : decode cX10_mindedIfShifted 43 = .ok (.ireturn, 1) := by decide +kernel
theorem dX10_spendEvening_0 : decode cX10_spendEvening 0 = .ok (.iload_n 1, 1) := by decide +kernel
theorem dX10_spendEvening_1 : decode cX10_spendEvening 1 = .ok (.invokestatic 316, 3) := by decide +kernel
theorem dX10_spendEvening_4 : decode cX10_spendEvening 4 = .ok (.istore_n 2, 1) := by decide +kernel
theorem dX10_spendEvening_5 : decode cX10_spendEvening 5 = .ok (.iload_n 2, 1) := by decide +kernel
theorem dX10_spendEvening_6 : decode cX10_spendEvening 6 = .ok (.bipush 16, 2) := by decide +kernel
theorem dX10_spendEvening_8 : decode cX10_spendEvening 8 = .ok (.irem, 1) := by decide +kernel
theorem dX10_spendEvening_9 : decode cX10_spendEvening 9 = .ok (.istore_n 3, 1) := by decide +kernel
theorem dX10_spendEvening_10 : decode cX10_spendEvening 10 = .ok (.iload_n 2, 1) := by decide +kernel
theorem dX10_spendEvening_11 : decode cX10_spendEvening 11 = .ok (.invokestatic 316, 3) := by decide +kernel
theorem dX10_spendEvening_14 : decode cX10_spendEvening 14 = .ok (.istore_n 2, 1) := by decide +kernel
theorem dX10_spendEvening_15 : decode cX10_spendEvening 15 = .ok (.iload_n 2, 1) := by decide +kernel
theorem dX10_spendEvening_16 : decode cX10_spendEvening 16 = .ok (.bipush 8, 2) := by decide +kernel
theorem dX10_spendEvening_18 : decode cX10_spendEvening 18 = .ok (.irem, 1) := by decide +kernel
theorem dX10_spendEvening_19 : decode cX10_spendEvening 19 = .ok (.istore 4, 2) := by decide +kernel
theorem dX10_spendEvening_21 : decode cX10_spendEvening 21 = .ok (.iload_n 2, 1) := by decide +kernel
theorem dX10_spendEvening_22 : decode cX10_spendEvening 22 = .ok (.invokestatic 316, 3) := by decide +kernel
theorem dX10_spendEvening_25 : decode cX10_spendEvening 25 = .ok (.istore_n 2, 1) := by decide +kernel
theorem dX10_spendEvening_26 : decode cX10_spendEvening 26 = .ok (.aload_n 0, 1) := by decide +kernel
theorem dX10_spendEvening_27 : decode cX10_spendEvening 27 = .ok (.getfield 19, 3) := by decide +kernel
theorem dX10_spendEvening_30 : decode cX10_spendEvening 30 = .ok (.getfield 95, 3) := by decide +kernel
theorem dX10_spendEvening_33 : decode cX10_spendEvening 33 = .ok (.ifCond .le 15, 3) := by decide +kernel
theorem dX10_spendEvening_36 : decode cX10_spendEvening 36 = .ok (.iload_n 2, 1) := by decide +kernel
theorem dX10_spendEvening_37 : decode cX10_spendEvening 37 = .ok (.aload_n 0, 1) := by decide +kernel
theorem dX10_spendEvening_38 : decode cX10_spendEvening 38 = .ok (.getfield 19, 3) := by decide +kernel
theorem dX10_spendEvening_41 : decode cX10_spendEvening 41 = .ok (.getfield 95, 3) := by decide +kernel
theorem dX10_spendEvening_44 : decode cX10_spendEvening 44 = .ok (.irem, 1) := by decide +kernel
theorem dX10_spendEvening_45 : decode cX10_spendEvening 45 = .ok (.goto 4, 3) := by decide +kernel
theorem dX10_spendEvening_48 : decode cX10_spendEvening 48 = .ok (.iconst (-1), 1) := by decide +kernel
theorem dX10_spendEvening_49 : decode cX10_spendEvening 49 = .ok (.istore 5, 2) := by decide +kernel
theorem dX10_spendEvening_51 : decode cX10_spendEvening 51 = .ok (.iload_n 2, 1) := by decide +kernel
theorem dX10_spendEvening_52 : decode cX10_spendEvening 52 = .ok (.invokestatic 316, 3) := by decide +kernel
theorem dX10_spendEvening_55 : decode cX10_spendEvening 55 = .ok (.istore_n 2, 1) := by decide +kernel
theorem dX10_spendEvening_56 : decode cX10_spendEvening 56 = .ok (.iload_n 2, 1) := by decide +kernel
theorem dX10_spendEvening_57 : decode cX10_spendEvening 57 = .ok (.iconst 3, 1) := by decide +kernel
theorem dX10_spendEvening_58 : decode cX10_spendEvening 58 = .ok (.irem, 1) := by decide +kernel
theorem dX10_spendEvening_59 : decode cX10_spendEvening 59 = .ok (.ifCond .ne 22, 3) := by decide +kernel
theorem dX10_spendEvening_62 : decode cX10_spendEvening 62 = .ok (.aload_n 0, 1) := by decide +kernel
theorem dX10_spendEvening_63 : decode cX10_spendEvening 63 = .ok (.getfield 19, 3) := by decide +kernel
theorem dX10_spendEvening_66 : decode cX10_spendEvening 66 = .ok (.getfield 127, 3) := by decide +kernel
theorem dX10_spendEvening_69 : decode cX10_spendEvening 69 = .ok (.iload_n 3, 1) := by decide +kernel
theorem dX10_spendEvening_70 : decode cX10_spendEvening 70 = .ok (.dup2, 1) := by decide +kernel
theorem dX10_spendEvening_71 : decode cX10_spendEvening 71 = .ok (.iaload, 1) := by decide +kernel
theorem dX10_spendEvening_72 : decode cX10_spendEvening 72 = .ok (.iconst 1, 1) := by decide +kernel
theorem dX10_spendEvening_73 : decode cX10_spendEvening 73 = .ok (.iload 4, 2) := by decide +kernel
theorem dX10_spendEvening_75 : decode cX10_spendEvening 75 = .ok (.ishl, 1) := by decide +kernel
theorem dX10_spendEvening_76 : decode cX10_spendEvening 76 = .ok (.ixor, 1) := by decide +kernel
theorem dX10_spendEvening_77 : decode cX10_spendEvening 77 = .ok (.iastore, 1) := by decide +kernel
theorem dX10_spendEvening_78 : decode cX10_spendEvening 78 = .ok (.goto 22, 3) := by decide +kernel
theorem dX10_spendEvening_81 : decode cX10_spendEvening 81 = .ok (.iload_n 2, 1) := by decide +kernel
theorem dX10_spendEvening_82 : decode cX10_spendEvening 82 = .ok (.iconst 3, 1) := by decide +kernel
theorem dX10_spendEvening_83 : decode cX10_spendEvening 83 = .ok (.irem, 1) := by decide +kernel
theorem dX10_spendEvening_84 : decode cX10_spendEvening 84 = .ok (.iconst 1, 1) := by decide +kernel
theorem dX10_spendEvening_85 : decode cX10_spendEvening 85 = .ok (.if_icmp .ne 15, 3) := by decide +kernel
theorem dX10_spendEvening_88 : decode cX10_spendEvening 88 = .ok (.aload_n 0, 1) := by decide +kernel
theorem dX10_spendEvening_89 : decode cX10_spendEvening 89 = .ok (.getfield 19, 3) := by decide +kernel
theorem dX10_spendEvening_92 : decode cX10_spendEvening 92 = .ok (.getfield 121, 3) := by decide +kernel
theorem dX10_spendEvening_95 : decode cX10_spendEvening 95 = .ok (.iload 4, 2) := by decide +kernel
theorem dX10_spendEvening_97 : decode cX10_spendEvening 97 = .ok (.iload 5, 2) := by decide +kernel
theorem dX10_spendEvening_99 : decode cX10_spendEvening 99 = .ok (.iastore, 1) := by decide +kernel
theorem dX10_spendEvening_100 : decode cX10_spendEvening 100 = .ok (.aload_n 0, 1) := by decide +kernel
theorem dX10_spendEvening_101 : decode cX10_spendEvening 101 = .ok (.getfield 19, 3) := by decide +kernel
theorem dX10_spendEvening_104 : decode cX10_spendEvening 104 = .ok (.getfield 144, 3) := by decide +kernel
theorem dX10_spendEvening_107 : decode cX10_spendEvening 107 = .ok (.iconst 0, 1) := by decide +kernel
theorem dX10_spendEvening_108 : decode cX10_spendEvening 108 = .ok (.dup2, 1) := by decide +kernel
theorem dX10_spendEvening_109 : decode cX10_spendEvening 109 = .ok (.iaload, 1) := by decide +kernel
theorem dX10_spendEvening_110 : decode cX10_spendEvening 110 = .ok (.iconst 1, 1) := by decide +kernel
theorem dX10_spendEvening_111 : decode cX10_spendEvening 111 = .ok (.iadd, 1) := by decide +kernel
theorem dX10_spendEvening_112 : decode cX10_spendEvening 112 = .ok (.iastore, 1) := by decide +kernel
theorem dX10_spendEvening_113 : decode cX10_spendEvening 113 = .ok (.iload_n 2, 1) := by decide +kernel
theorem dX10_spendEvening_114 : decode cX10_spendEvening 114 = .ok (.ireturn, 1) := by decide +kernel
theorem dX10_stir_0 : decode cX10_stir 0 = .ok (.iload_n 0, 1) := by decide +kernel
theorem dX10_stir_1 : decode cX10_stir 1 = .ok (.sipush 1103, 3) := by decide +kernel
theorem dX10_stir_4 : decode cX10_stir 4 = .ok (.imul, 1) := by decide +kernel
theorem dX10_stir_5 : decode cX10_stir 5 = .ok (.sipush 12345, 3) := by decide +kernel
theorem dX10_stir_8 : decode cX10_stir 8 = .ok (.iadd, 1) := by decide +kernel
theorem dX10_stir_9 : decode cX10_stir 9 = .ok (.ldc_w 319, 3) := by decide +kernel
theorem dX10_stir_12 : decode cX10_stir 12 = .ok (.irem, 1) := by decide +kernel
theorem dX10_stir_13 : decode cX10_stir 13 = .ok (.ireturn, 1) := by decide +kernel
theorem dX10_mostTerm_0 : decode cX10_mostTerm 0 = .ok (.iload_n 0, 1) := by decide +kernel
theorem dX10_mostTerm_1 : decode cX10_mostTerm 1 = .ok (.ifCond .ne 7, 3) := by decide +kernel
theorem dX10_mostTerm_4 : decode cX10_mostTerm 4 = .ok (.sipush 999, 3) := by decide +kernel
theorem dX10_mostTerm_7 : decode cX10_mostTerm 7 = .ok (.ireturn, 1) := by decide +kernel
theorem dX10_mostTerm_8 : decode cX10_mostTerm 8 = .ok (.iload_n 0, 1) := by decide +kernel
theorem dX10_mostTerm_9 : decode cX10_mostTerm 9 = .ok (.iconst 1, 1) := by decide +kernel
theorem dX10_mostTerm_10 : decode cX10_mostTerm 10 = .ok (.if_icmp .ne 8, 3) := by decide +kernel
theorem dX10_mostTerm_13 : decode cX10_mostTerm 13 = .ok (.bipush 10, 2) := by decide +kernel
theorem dX10_mostTerm_15 : decode cX10_mostTerm 15 = .ok (.goto 5, 3) := by decide +kernel
theorem dX10_mostTerm_18 : decode cX10_mostTerm 18 = .ok (.bipush 9, 2) := by decide +kernel
theorem dX10_mostTerm_20 : decode cX10_mostTerm 20 = .ok (.ireturn, 1) := by decide +kernel
theorem dX10_isKey_0 : decode cX10_isKey 0 = .ok (.iload_n 0, 1) := by decide +kernel
theorem dX10_isKey_1 : decode cX10_isKey 1 = .ok (.ifCond .lt 13, 3) := by decide +kernel
theorem dX10_isKey_4 : decode cX10_isKey 4 = .ok (.iload_n 0, 1) := by decide +kernel
theorem dX10_isKey_5 : decode cX10_isKey 5 = .ok (.bipush 8, 2) := by decide +kernel
theorem dX10_isKey_7 : decode cX10_isKey 7 = .ok (.if_icmp .ge 7, 3) := by decide +kernel
theorem dX10_isKey_10 : decode cX10_isKey 10 = .ok (.iconst 1, 1) := by decide +kernel
theorem dX10_isKey_11 : decode cX10_isKey 11 = .ok (.goto 4, 3) := by decide +kernel
theorem dX10_isKey_14 : decode cX10_isKey 14 = .ok (.iconst 0, 1) := by decide +kernel
theorem dX10_isKey_15 : decode cX10_isKey 15 = .ok (.ireturn, 1) := by decide +kernel
theorem dX10_isBeat_0 : decode cX10_isBeat 0 = .ok (.iload_n 0, 1) := by decide +kernel
theorem dX10_isBeat_1 : decode cX10_isBeat 1 = .ok (.ifCond .lt 13, 3) := by decide +kernel
theorem dX10_isBeat_4 : decode cX10_isBeat 4 = .ok (.iload_n 0, 1) := by decide +kernel
theorem dX10_isBeat_5 : decode cX10_isBeat 5 = .ok (.bipush 16, 2) := by decide +kernel
theorem dX10_isBeat_7 : decode cX10_isBeat 7 = .ok (.if_icmp .ge 7, 3) := by decide +kernel
theorem dX10_isBeat_10 : decode cX10_isBeat 10 = .ok (.iconst 1, 1) := by decide +kernel
theorem dX10_isBeat_11 : decode cX10_isBeat 11 = .ok (.goto 4, 3) := by decide +kernel
theorem dX10_isBeat_14 : decode cX10_isBeat 14 = .ok (.iconst 0, 1) := by decide +kernel
theorem dX10_isBeat_15 : decode cX10_isBeat 15 = .ok (.ireturn, 1) := by decide +kernel
theorem dX10_isLetter_0 : decode cX10_isLetter 0 = .ok (.iload_n 0, 1) := by decide +kernel
theorem dX10_isLetter_1 : decode cX10_isLetter 1 = .ok (.bipush 97, 2) := by decide +kernel
theorem dX10_isLetter_3 : decode cX10_isLetter 3 = .ok (.if_icmp .lt 13, 3) := by decide +kernel
theorem dX10_isLetter_6 : decode cX10_isLetter 6 = .ok (.iload_n 0, 1) := by decide +kernel
theorem dX10_isLetter_7 : decode cX10_isLetter 7 = .ok (.bipush 122, 2) := by decide +kernel
theorem dX10_isLetter_9 : decode cX10_isLetter 9 = .ok (.if_icmp .gt 7, 3) := by decide +kernel
theorem dX10_isLetter_12 : decode cX10_isLetter 12 = .ok (.iconst 1, 1) := by decide +kernel
theorem dX10_isLetter_13 : decode cX10_isLetter 13 = .ok (.goto 4, 3) := by decide +kernel
theorem dX10_isLetter_16 : decode cX10_isLetter 16 = .ok (.iconst 0, 1) := by decide +kernel
theorem dX10_isLetter_17 : decode cX10_isLetter 17 = .ok (.ireturn, 1) := by decide +kernel
theorem dX10_isDigit_0 : decode cX10_isDigit 0 = .ok (.iload_n 0, 1) := by decide +kernel
theorem dX10_isDigit_1 : decode cX10_isDigit 1 = .ok (.bipush 48, 2) := by decide +kernel
theorem dX10_isDigit_3 : decode cX10_isDigit 3 = .ok (.if_icmp .lt 13, 3) := by decide +kernel
theorem dX10_isDigit_6 : decode cX10_isDigit 6 = .ok (.iload_n 0, 1) := by decide +kernel
theorem dX10_isDigit_7 : decode cX10_isDigit 7 = .ok (.bipush 57, 2) := by decide +kernel
theorem dX10_isDigit_9 : decode cX10_isDigit 9 = .ok (.if_icmp .gt 7, 3) := by decide +kernel
theorem dX10_isDigit_12 : decode cX10_isDigit 12 = .ok (.iconst 1, 1) := by decide +kernel
theorem dX10_isDigit_13 : decode cX10_isDigit 13 = .ok (.goto 4, 3) := by decide +kernel
theorem dX10_isDigit_16 : decode cX10_isDigit 16 = .ok (.iconst 0, 1) := by decide +kernel
theorem dX10_isDigit_17 : decode cX10_isDigit 17 = .ok (.ireturn, 1) := by decide +kernel
