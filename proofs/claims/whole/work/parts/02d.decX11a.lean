/-! decode rows -/
theorem dX11_lies_0 : decode cX11_lies 0 = .ok (.iload_n 0, 1) := by decide +kernel
theorem dX11_lies_1 : decode cX11_lies 1 = .ok (.iload_n 1, 1) := by decide +kernel
theorem dX11_lies_2 : decode cX11_lies 2 = .ok (.if_icmp .lt 12, 3) := by decide +kernel
theorem dX11_lies_5 : decode cX11_lies 5 = .ok (.iload_n 0, 1) := by decide +kernel
theorem dX11_lies_6 : decode cX11_lies 6 = .ok (.iload_n 2, 1) := by decide +kernel
theorem dX11_lies_7 : decode cX11_lies 7 = .ok (.if_icmp .gt 7, 3) := by decide +kernel
theorem dX11_lies_10 : decode cX11_lies 10 = .ok (.iconst 1, 1) := by decide +kernel
theorem dX11_lies_11 : decode cX11_lies 11 = .ok (.goto 4, 3) := by decide +kernel
theorem dX11_lies_14 : decode cX11_lies 14 = .ok (.iconst 0, 1) := by decide +kernel
theorem dX11_lies_15 : decode cX11_lies 15 = .ok (.ireturn, 1) := by decide +kernel
theorem dX11_lesser_0 : decode cX11_lesser 0 = .ok (.iload_n 0, 1) := by decide +kernel
theorem dX11_lesser_1 : decode cX11_lesser 1 = .ok (.iload_n 1, 1) := by decide +kernel
theorem dX11_lesser_2 : decode cX11_lesser 2 = .ok (.if_icmp .ge 7, 3) := by decide +kernel
theorem dX11_lesser_5 : decode cX11_lesser 5 = .ok (.iload_n 0, 1) := by decide +kernel
theorem dX11_lesser_6 : decode cX11_lesser 6 = .ok (.goto 4, 3) := by decide +kernel
theorem dX11_lesser_9 : decode cX11_lesser 9 = .ok (.iload_n 1, 1) := by decide +kernel
theorem dX11_lesser_10 : decode cX11_lesser 10 = .ok (.ireturn, 1) := by decide +kernel
theorem dX11_greater_0 : decode cX11_greater 0 = .ok (.iload_n 0, 1) := by decide +kernel
theorem dX11_greater_1 : decode cX11_greater 1 = .ok (.iload_n 1, 1) := by decide +kernel
theorem dX11_greater_2 : decode cX11_greater 2 = .ok (.if_icmp .le 7, 3) := by decide +kernel
theorem dX11_greater_5 : decode cX11_greater 5 = .ok (.iload_n 0, 1) := by decide +kernel
theorem dX11_greater_6 : decode cX11_greater 6 = .ok (.goto 4, 3) := by decide +kernel
theorem dX11_greater_9 : decode cX11_greater 9 = .ok (.iload_n 1, 1) := by decide +kernel
theorem dX11_greater_10 : decode cX11_greater 10 = .ok (.ireturn, 1) := by decide +kernel
theorem dX11_refuses_0 : decode cX11_refuses 0 = .ok (.aload_n 0, 1) := by decide +kernel
theorem dX11_refuses_1 : decode cX11_refuses 1 = .ok (.iload_n 1, 1) := by decide +kernel
theorem dX11_refuses_2 : decode cX11_refuses 2 = .ok (.putfield 3, 3) := by decide +kernel
theorem dX11_refuses_5 : decode cX11_refuses 5 = .ok (.aload_n 0, 1) := by decide +kernel
theorem dX11_refuses_6 : decode cX11_refuses 6 = .ok (.getfield 7, 3) := by decide +kernel
theorem dX11_refuses_9 : decode cX11_refuses 9 = .ok (.iload_n 1, 1) := by decide +kernel
theorem dX11_refuses_10 : decode cX11_refuses 10 = .ok (.ineg, 1) := by decide +kernel
theorem dX11_refuses_11 : decode cX11_refuses 11 = .ok (.dup2, 1) := by decide +kernel
theorem dX11_refuses_12 : decode cX11_refuses 12 = .ok (.iaload, 1) := by decide +kernel
theorem dX11_refuses_13 : decode cX11_refuses 13 = .ok (.iconst 1, 1) := by decide +kernel
theorem dX11_refuses_14 : decode cX11_refuses 14 = .ok (.iadd, 1) := by decide +kernel
theorem dX11_refuses_15 : decode cX11_refuses 15 = .ok (.iastore, 1) := by decide +kernel
theorem dX11_refuses_16 : decode cX11_refuses 16 = .ok (.iload_n 1, 1) := by decide +kernel
theorem dX11_refuses_17 : decode cX11_refuses 17 = .ok (.ireturn, 1) := by decide +kernel
theorem dX11_good_0 : decode cX11_good 0 = .ok (.aload_n 0, 1) := by decide +kernel
theorem dX11_good_1 : decode cX11_good 1 = .ok (.iconst 0, 1) := by decide +kernel
theorem dX11_good_2 : decode cX11_good 2 = .ok (.putfield 3, 3) := by decide +kernel
theorem dX11_good_5 : decode cX11_good 5 = .ok (.iload_n 1, 1) := by decide +kernel
theorem dX11_good_6 : decode cX11_good 6 = .ok (.ireturn, 1) := by decide +kernel
theorem dX11_goodAnew_0 : decode cX11_goodAnew 0 = .ok (.aload_n 0, 1) := by decide +kernel
theorem dX11_goodAnew_1 : decode cX11_goodAnew 1 = .ok (.iconst 0, 1) := by decide +kernel
theorem dX11_goodAnew_2 : decode cX11_goodAnew 2 = .ok (.putfield 11, 3) := by decide +kernel
theorem dX11_goodAnew_5 : decode cX11_goodAnew 5 = .ok (.aload_n 0, 1) := by decide +kernel
theorem dX11_goodAnew_6 : decode cX11_goodAnew 6 = .ok (.iload_n 1, 1) := by decide +kernel
theorem dX11_goodAnew_7 : decode cX11_goodAnew 7 = .ok (.invokevirtual 14, 3) := by decide +kernel
theorem dX11_goodAnew_10 : decode cX11_goodAnew 10 = .ok (.ireturn, 1) := by decide +kernel
theorem dX11_isIn_0 : decode cX11_isIn 0 = .ok (.iload_n 0, 1) := by decide +kernel
theorem dX11_isIn_1 : decode cX11_isIn 1 = .ok (.iload_n 1, 1) := by decide +kernel
theorem dX11_isIn_2 : decode cX11_isIn 2 = .ok (.ishr, 1) := by decide +kernel
theorem dX11_isIn_3 : decode cX11_isIn 3 = .ok (.iconst 1, 1) := by decide +kernel
theorem dX11_isIn_4 : decode cX11_isIn 4 = .ok (.iand, 1) := by decide +kernel
theorem dX11_isIn_5 : decode cX11_isIn 5 = .ok (.iconst 1, 1) := by decide +kernel
theorem dX11_isIn_6 : decode cX11_isIn 6 = .ok (.if_icmp .ne 7, 3) := by decide +kernel
theorem dX11_isIn_9 : decode cX11_isIn 9 = .ok (.iconst 1, 1) := by decide +kernel
theorem dX11_isIn_10 : decode cX11_isIn 10 = .ok (.goto 4, 3) := by decide +kernel
theorem dX11_isIn_13 : decode cX11_isIn 13 = .ok (.iconst 0, 1) := by decide +kernel
theorem dX11_isIn_14 : decode cX11_isIn 14 = .ok (.ireturn, 1) := by decide +kernel
theorem dX11_ones_0 : decode cX11_ones 0 = .ok (.iconst 0, 1) := by decide +kernel
theorem dX11_ones_1 : decode cX11_ones 1 = .ok (.istore_n 1, 1) := by decide +kernel
theorem dX11_ones_2 : decode cX11_ones 2 = .ok (.iconst 0, 1) := by decide +kernel
theorem dX11_ones_3 : decode cX11_ones 3 = .ok (.istore_n 2, 1) := by decide +kernel
theorem dX11_ones_4 : decode cX11_ones 4 = .ok (.iload_n 2, 1) := by decide +kernel
theorem dX11_ones_5 : decode cX11_ones 5 = .ok (.bipush 8, 2) := by decide +kernel
theorem dX11_ones_7 : decode cX11_ones 7 = .ok (.if_icmp .ge 17, 3) := by decide +kernel
theorem dX11_ones_10 : decode cX11_ones 10 = .ok (.iload_n 1, 1) := by decide +kernel
theorem dX11_ones_11 : decode cX11_ones 11 = .ok (.iload_n 0, 1) := by decide +kernel
theorem dX11_ones_12 : decode cX11_ones 12 = .ok (.iload_n 2, 1) := by decide +kernel
theorem dX11_ones_13 : decode cX11_ones 13 = .ok (.ishr, 1) := by decide +kernel
theorem dX11_ones_14 : decode cX11_ones 14 = .ok (.iconst 1, 1) := by decide +kernel
theorem dX11_ones_15 : decode cX11_ones 15 = .ok (.iand, 1) := by decide +kernel
theorem dX11_ones_16 : decode cX11_ones 16 = .ok (.iadd, 1) := by decide +kernel
theorem dX11_ones_17 : decode cX11_ones 17 = .ok (.istore_n 1, 1) := by decide +kernel
theorem dX11_ones_18 : decode cX11_ones 18 = .ok (.iinc 2 1, 3) := by decide +kernel
theorem dX11_ones_21 : decode cX11_ones 21 = .ok (.goto (-17), 3) := by decide +kernel
theorem dX11_ones_24 : decode cX11_ones 24 = .ok (.iload_n 1, 1) := by decide +kernel
theorem dX11_ones_25 : decode cX11_ones 25 = .ok (.ireturn, 1) := by decide +kernel
theorem dX11_isKey_0 : decode cX11_isKey 0 = .ok (.iload_n 0, 1) := by decide +kernel
theorem dX11_isKey_1 : decode cX11_isKey 1 = .ok (.iconst 0, 1) := by decide +kernel
theorem dX11_isKey_2 : decode cX11_isKey 2 = .ok (.bipush 7, 2) := by decide +kernel
theorem dX11_isKey_4 : decode cX11_isKey 4 = .ok (.invokestatic 18, 3) := by decide +kernel
theorem dX11_isKey_7 : decode cX11_isKey 7 = .ok (.ireturn, 1) := by decide +kernel
theorem dX11_isBeat_0 : decode cX11_isBeat 0 = .ok (.iload_n 0, 1) := by decide +kernel
theorem dX11_isBeat_1 : decode cX11_isBeat 1 = .ok (.iconst 0, 1) := by decide +kernel
theorem dX11_isBeat_2 : decode cX11_isBeat 2 = .ok (.bipush 15, 2) := by decide +kernel
theorem dX11_isBeat_4 : decode cX11_isBeat 4 = .ok (.invokestatic 18, 3) := by decide +kernel
theorem dX11_isBeat_7 : decode cX11_isBeat 7 = .ok (.ireturn, 1) := by decide +kernel
theorem dX11_laysAside_0 : decode cX11_laysAside 0 = .ok (.iconst 0, 1) := by decide +kernel
theorem dX11_laysAside_1 : decode cX11_laysAside 1 = .ok (.istore_n 2, 1) := by decide +kernel
theorem dX11_laysAside_2 : decode cX11_laysAside 2 = .ok (.iload_n 2, 1) := by decide +kernel
theorem dX11_laysAside_3 : decode cX11_laysAside 3 = .ok (.bipush 25, 2) := by decide +kernel
theorem dX11_laysAside_5 : decode cX11_laysAside 5 = .ok (.if_icmp .ge 26, 3) := by decide +kernel
theorem dX11_laysAside_8 : decode cX11_laysAside 8 = .ok (.aload_n 0, 1) := by decide +kernel
theorem dX11_laysAside_9 : decode cX11_laysAside 9 = .ok (.getfield 38, 3) := by decide +kernel
theorem dX11_laysAside_12 : decode cX11_laysAside 12 = .ok (.bipush 25, 2) := by decide +kernel
theorem dX11_laysAside_14 : decode cX11_laysAside 14 = .ok (.iload_n 1, 1) := by decide +kernel
theorem dX11_laysAside_15 : decode cX11_laysAside 15 = .ok (.imul, 1) := by decide +kernel
theorem dX11_laysAside_16 : decode cX11_laysAside 16 = .ok (.iload_n 2, 1) := by decide +kernel
theorem dX11_laysAside_17 : decode cX11_laysAside 17 = .ok (.iadd, 1) := by decide +kernel
theorem dX11_laysAside_18 : decode cX11_laysAside 18 = .ok (.aload_n 0, 1) := by decide +kernel
theorem dX11_laysAside_19 : decode cX11_laysAside 19 = .ok (.getfield 28, 3) := by decide +kernel
theorem dX11_laysAside_22 : decode cX11_laysAside 22 = .ok (.iload_n 2, 1) := by decide +kernel
theorem dX11_laysAside_23 : decode cX11_laysAside 23 = .ok (.iaload, 1) := by decide +kernel
theorem dX11_laysAside_24 : decode cX11_laysAside 24 = .ok (.iastore, 1) := by decide +kernel
theorem dX11_laysAside_25 : decode cX11_laysAside 25 = .ok (.iinc 2 1, 3) := by decide +kernel
theorem dX11_laysAside_28 : decode cX11_laysAside 28 = .ok (.goto (-26), 3) := by decide +kernel
theorem dX11_laysAside_31 : decode cX11_laysAside 31 = .ok (.return_, 1) := by decide +kernel
theorem dX11_takesBack_0 : decode cX11_takesBack 0 = .ok (.iconst 0, 1) := by decide +kernel
theorem dX11_takesBack_1 : decode cX11_takesBack 1 = .ok (.istore_n 2, 1) := by decide +kernel
theorem dX11_takesBack_2 : decode cX11_takesBack 2 = .ok (.iload_n 2, 1) := by decide +kernel
theorem dX11_takesBack_3 : decode cX11_takesBack 3 = .ok (.bipush 25, 2) := by decide +kernel
theorem dX11_takesBack_5 : decode cX11_takesBack 5 = .ok (.if_icmp .ge 26, 3) := by decide +kernel
theorem dX11_takesBack_8 : decode cX11_takesBack 8 = .ok (.aload_n 0, 1) := by decide +kernel
theorem dX11_takesBack_9 : decode cX11_takesBack 9 = .ok (.getfield 28, 3) := by decide +kernel
theorem dX11_takesBack_12 : decode cX11_takesBack 12 = .ok (.iload_n 2, 1) := by decide +kernel
theorem dX11_takesBack_13 : decode cX11_takesBack 13 = .ok (.aload_n 0, 1) := by decide +kernel
theorem dX11_takesBack_14 : decode cX11_takesBack 14 = .ok (.getfield 38, 3) := by decide +kernel
theorem dX11_takesBack_17 : decode cX11_takesBack 17 = .ok (.bipush 25, 2) := by decide +kernel
theorem dX11_takesBack_19 : decode cX11_takesBack 19 = .ok (.iload_n 1, 1) := by decide +kernel
theorem dX11_takesBack_20 : decode cX11_takesBack 20 = .ok (.imul, 1) := by decide +kernel
theorem dX11_takesBack_21 : decode cX11_takesBack 21 = .ok (.iload_n 2, 1) := by decide +kernel
theorem dX11_takesBack_22 : decode cX11_takesBack 22 = .ok (.iadd, 1) := by decide +kernel
theorem dX11_takesBack_23 : decode cX11_takesBack 23 = .ok (.iaload, 1) := by decide +kernel
theorem dX11_takesBack_24 : decode cX11_takesBack 24 = .ok (.iastore, 1) := by decide +kernel
theorem dX11_takesBack_25 : decode cX11_takesBack 25 = .ok (.iinc 2 1, 3) := by decide +kernel
theorem dX11_takesBack_28 : decode cX11_takesBack 28 = .ok (.goto (-26), 3) := by decide +kernel
theorem dX11_takesBack_31 : decode cX11_takesBack 31 = .ok (.return_, 1) := by decide +kernel
theorem dX11_image_0 : decode cX11_image 0 = .ok (.iload_n 1, 1) := by decide +kernel
theorem dX11_image_1 : decode cX11_image 1 = .ok (.iconst 0, 1) := by decide +kernel
theorem dX11_image_2 : decode cX11_image 2 = .ok (.iconst 1, 1) := by decide +kernel
theorem dX11_image_3 : decode cX11_image 3 = .ok (.invokestatic 18, 3) := by decide +kernel
theorem dX11_image_6 : decode cX11_image 6 = .ok (.ifCond .ne 9, 3) := by decide +kernel
theorem dX11_image_9 : decode cX11_image 9 = .ok (.aload_n 0, 1) := by decide +kernel
theorem dX11_image_10 : decode cX11_image 10 = .ok (.iconst (-1), 1) := by decide +kernel
theorem dX11_image_11 : decode cX11_image 11 = .ok (.invokevirtual 112, 3) := by decide +kernel
theorem dX11_image_14 : decode cX11_image 14 = .ok (.ireturn, 1) := by decide +kernel
theorem dX11_image_15 : decode cX11_image 15 = .ok (.iconst 0, 1) := by decide +kernel
theorem dX11_image_16 : decode cX11_image 16 = .ok (.istore_n 2, 1) := by decide +kernel
theorem dX11_image_17 : decode cX11_image 17 = .ok (.iload_n 2, 1) := by decide +kernel
theorem dX11_image_18 : decode cX11_image 18 = .ok (.sipush 5656, 3) := by decide +kernel
theorem dX11_image_21 : decode cX11_image 21 = .ok (.if_icmp .ge 27, 3) := by decide +kernel
theorem dX11_image_24 : decode cX11_image 24 = .ok (.aload_n 0, 1) := by decide +kernel
theorem dX11_image_25 : decode cX11_image 25 = .ok (.getfield 31, 3) := by decide +kernel
theorem dX11_image_28 : decode cX11_image 28 = .ok (.sipush 5656, 3) := by decide +kernel
theorem dX11_image_31 : decode cX11_image 31 = .ok (.iload_n 1, 1) := by decide +kernel
theorem dX11_image_32 : decode cX11_image 32 = .ok (.imul, 1) := by decide +kernel
theorem dX11_image_33 : decode cX11_image 33 = .ok (.iload_n 2, 1) := by decide +kernel
theorem dX11_image_34 : decode cX11_image 34 = .ok (.iadd, 1) := by decide +kernel
theorem dX11_image_35 : decode cX11_image 35 = .ok (.aload_n 0, 1) := by decide +kernel
theorem dX11_image_36 : decode cX11_image 36 = .ok (.getfield 28, 3) := by decide +kernel
theorem dX11_image_39 : decode cX11_image 39 = .ok (.iload_n 2, 1) := by decide +kernel
theorem dX11_image_40 : decode cX11_image 40 = .ok (.iaload, 1) := by decide +kernel
theorem dX11_image_41 : decode cX11_image 41 = .ok (.iastore, 1) := by decide +kernel
theorem dX11_image_42 : decode cX11_image 42 = .ok (.iinc 2 1, 3) := by decide +kernel
theorem dX11_image_45 : decode cX11_image 45 = .ok (.goto (-28), 3) := by decide +kernel
theorem dX11_image_48 : decode cX11_image 48 = .ok (.aload_n 0, 1) := by decide +kernel
theorem dX11_image_49 : decode cX11_image 49 = .ok (.getfield 34, 3) := by decide +kernel
theorem dX11_image_52 : decode cX11_image 52 = .ok (.iload_n 1, 1) := by decide +kernel
theorem dX11_image_53 : decode cX11_image 53 = .ok (.iconst 1, 1) := by decide +kernel
theorem dX11_image_54 : decode cX11_image 54 = .ok (.bastore, 1) := by decide +kernel
theorem dX11_image_55 : decode cX11_image 55 = .ok (.aload_n 0, 1) := by decide +kernel
theorem dX11_image_56 : decode cX11_image 56 = .ok (.iconst 0, 1) := by decide +kernel
theorem dX11_image_57 : decode cX11_image 57 = .ok (.invokevirtual 14, 3) := by decide +kernel
theorem dX11_image_60 : decode cX11_image 60 = .ok (.ireturn, 1) := by decide +kernel
theorem dX11_back_0 : decode cX11_back 0 = .ok (.iload_n 1, 1) := by decide +kernel
theorem dX11_back_1 : decode cX11_back 1 = .ok (.iconst 0, 1) := by decide +kernel
theorem dX11_back_2 : decode cX11_back 2 = .ok (.iconst 1, 1) := by decide +kernel
theorem dX11_back_3 : decode cX11_back 3 = .ok (.invokestatic 18, 3) := by decide +kernel
theorem dX11_back_6 : decode cX11_back 6 = .ok (.ifCond .ne 9, 3) := by decide +kernel
theorem dX11_back_9 : decode cX11_back 9 = .ok (.aload_n 0, 1) := by decide +kernel
theorem dX11_back_10 : decode cX11_back 10 = .ok (.iconst (-1), 1) := by decide +kernel
theorem dX11_back_11 : decode cX11_back 11 = .ok (.invokevirtual 112, 3) := by decide +kernel
theorem dX11_back_14 : decode cX11_back 14 = .ok (.ireturn, 1) := by decide +kernel
theorem dX11_back_15 : decode cX11_back 15 = .ok (.aload_n 0, 1) := by decide +kernel
theorem dX11_back_16 : decode cX11_back 16 = .ok (.getfield 34, 3) := by decide +kernel
theorem dX11_back_19 : decode cX11_back 19 = .ok (.iload_n 1, 1) := by decide +kernel
theorem dX11_back_20 : decode cX11_back 20 = .ok (.baload, 1) := by decide +kernel
theorem dX11_back_21 : decode cX11_back 21 = .ok (.ifCond .ne 10, 3) := by decide +kernel
theorem dX11_back_24 : decode cX11_back 24 = .ok (.aload_n 0, 1) := by decide +kernel
theorem dX11_back_25 : decode cX11_back 25 = .ok (.bipush (-2), 2) := by decide +kernel
theorem dX11_back_27 : decode cX11_back 27 = .ok (.invokevirtual 112, 3) := by decide +kernel
theorem dX11_back_30 : decode cX11_back 30 = .ok (.ireturn, 1) := by decide +kernel
theorem dX11_back_31 : decode cX11_back 31 = .ok (.iconst 0, 1) := by decide +kernel
theorem dX11_back_32 : decode cX11_back 32 = .ok (.istore_n 2, 1) := by decide +kernel
theorem dX11_back_33 : decode cX11_back 33 = .ok (.iload_n 2, 1) := by decide +kernel
theorem dX11_back_34 : decode cX11_back 34 = .ok (.sipush 5656, 3) := by decide +kernel
theorem dX11_back_37 : decode cX11_back 37 = .ok (.if_icmp .ge 27, 3) := by decide +kernel
theorem dX11_back_40 : decode cX11_back 40 = .ok (.aload_n 0, 1) := by decide +kernel
theorem dX11_back_41 : decode cX11_back 41 = .ok (.getfield 28, 3) := by decide +kernel
theorem dX11_back_44 : decode cX11_back 44 = .ok (.iload_n 2, 1) := by decide +kernel
theorem dX11_back_45 : decode cX11_back 45 = .ok (.aload_n 0, 1) := by decide +kernel
theorem dX11_back_46 : decode cX11_back 46 = .ok (.getfield 31, 3) := by decide +kernel
theorem dX11_back_49 : decode cX11_back 49 = .ok (.sipush 5656, 3) := by decide +kernel
theorem dX11_back_52 : decode cX11_back 52 = .ok (.iload_n 1, 1) := by decide +kernel
theorem dX11_back_53 : decode cX11_back 53 = .ok (.imul, 1) := by decide +kernel
theorem dX11_back_54 : decode cX11_back 54 = .ok (.iload_n 2, 1) := by decide +kernel
theorem dX11_back_55 : decode cX11_back 55 = .ok (.iadd, 1) := by decide +kernel
theorem dX11_back_56 : decode cX11_back 56 = .ok (.iaload, 1) := by decide +kernel
theorem dX11_back_57 : decode cX11_back 57 = .ok (.iastore, 1) := by decide +kernel
theorem dX11_back_58 : decode cX11_back 58 = .ok (.iinc 2 1, 3) := by decide +kernel
theorem dX11_back_61 : decode cX11_back 61 = .ok (.goto (-28), 3) := by decide +kernel
theorem dX11_back_64 : decode cX11_back 64 = .ok (.aload_n 0, 1) := by decide +kernel
theorem dX11_back_65 : decode cX11_back 65 = .ok (.iconst 0, 1) := by decide +kernel
theorem dX11_back_66 : decode cX11_back 66 = .ok (.invokevirtual 115, 3) := by decide +kernel
theorem dX11_back_69 : decode cX11_back 69 = .ok (.ireturn, 1) := by decide +kernel
theorem dX11_many_0 : decode cX11_many 0 = .ok (.aload_n 0, 1) := by decide +kernel
theorem dX11_many_1 : decode cX11_many 1 = .ok (.getfield 28, 3) := by decide +kernel
theorem dX11_many_4 : decode cX11_many 4 = .ok (.bipush 45, 2) := by decide +kernel
theorem dX11_many_6 : decode cX11_many 6 = .ok (.iaload, 1) := by decide +kernel
theorem dX11_many_7 : decode cX11_many 7 = .ok (.ireturn, 1) := by decide +kernel
theorem dX11_isHouse_0 : decode cX11_isHouse 0 = .ok (.iload_n 1, 1) := by decide +kernel
theorem dX11_isHouse_1 : decode cX11_isHouse 1 = .ok (.iconst 0, 1) := by decide +kernel
theorem dX11_isHouse_2 : decode cX11_isHouse 2 = .ok (.aload_n 0, 1) := by decide +kernel
theorem dX11_isHouse_3 : decode cX11_isHouse 3 = .ok (.invokevirtual 118, 3) := by decide +kernel
theorem dX11_isHouse_6 : decode cX11_isHouse 6 = .ok (.iconst 1, 1) := by decide +kernel
theorem dX11_isHouse_7 : decode cX11_isHouse 7 = .ok (.isub, 1) := by decide +kernel
theorem dX11_isHouse_8 : decode cX11_isHouse 8 = .ok (.invokestatic 18, 3) := by decide +kernel
theorem dX11_isHouse_11 : decode cX11_isHouse 11 = .ok (.ireturn, 1) := by decide +kernel
theorem dX11_musicAt_0 : decode cX11_musicAt 0 = .ok (.aload_n 0, 1) := by decide +kernel
theorem dX11_musicAt_1 : decode cX11_musicAt 1 = .ok (.getfield 28, 3) := by decide +kernel
theorem dX11_musicAt_4 : decode cX11_musicAt 4 = .ok (.bipush 8, 2) := by decide +kernel
theorem dX11_musicAt_6 : decode cX11_musicAt 6 = .ok (.iload_n 1, 1) := by decide +kernel
theorem dX11_musicAt_7 : decode cX11_musicAt 7 = .ok (.iadd, 1) := by decide +kernel
theorem dX11_musicAt_8 : decode cX11_musicAt 8 = .ok (.iaload, 1) := by decide +kernel
theorem dX11_musicAt_9 : decode cX11_musicAt 9 = .ok (.ireturn, 1) := by decide +kernel
theorem dX11_notes0_0 : decode cX11_notes0 0 = .ok (.iconst 0, 1) := by decide +kernel
theorem dX11_notes0_1 : decode cX11_notes0 1 = .ok (.istore_n 1, 1) := by decide +kernel
theorem dX11_notes0_2 : decode cX11_notes0 2 = .ok (.iconst 0, 1) := by decide +kernel
theorem dX11_notes0_3 : decode cX11_notes0 3 = .ok (.istore_n 2, 1) := by decide +kernel
theorem dX11_notes0_4 : decode cX11_notes0 4 = .ok (.iload_n 2, 1) := by decide +kernel
theorem dX11_notes0_5 : decode cX11_notes0 5 = .ok (.bipush 16, 2) := by decide +kernel
theorem dX11_notes0_7 : decode cX11_notes0 7 = .ok (.if_icmp .ge 20, 3) := by decide +kernel
theorem dX11_notes0_10 : decode cX11_notes0 10 = .ok (.iload_n 1, 1) := by decide +kernel
theorem dX11_notes0_11 : decode cX11_notes0 11 = .ok (.aload_n 0, 1) := by decide +kernel
theorem dX11_notes0_12 : decode cX11_notes0 12 = .ok (.iload_n 2, 1) := by decide +kernel
theorem dX11_notes0_13 : decode cX11_notes0 13 = .ok (.invokevirtual 122, 3) := by decide +kernel
theorem dX11_notes0_16 : decode cX11_notes0 16 = .ok (.invokestatic 125, 3) := by decide +kernel
theorem dX11_notes0_19 : decode cX11_notes0 19 = .ok (.iadd, 1) := by decide +kernel
theorem dX11_notes0_20 : decode cX11_notes0 20 = .ok (.istore_n 1, 1) := by decide +kernel
theorem dX11_notes0_21 : decode cX11_notes0 21 = .ok (.iinc 2 1, 3) := by decide +kernel
theorem dX11_notes0_24 : decode cX11_notes0 24 = .ok (.goto (-20), 3) := by decide +kernel
theorem dX11_notes0_27 : decode cX11_notes0 27 = .ok (.iload_n 1, 1) := by decide +kernel
theorem dX11_notes0_28 : decode cX11_notes0 28 = .ok (.ireturn, 1) := by decide +kernel
theorem dX11_house_0 : decode cX11_house 0 = .ok (.iload_n 1, 1) := by decide +kernel
theorem dX11_house_1 : decode cX11_house 1 = .ok (.iconst 1, 1) := by decide +kernel
theorem dX11_house_2 : decode cX11_house 2 = .ok (.bipush 8, 2) := by decide +kernel
theorem dX11_house_4 : decode cX11_house 4 = .ok (.invokestatic 18, 3) := by decide +kernel
theorem dX11_house_7 : decode cX11_house 7 = .ok (.ifCond .eq 13, 3) := by decide +kernel
theorem dX11_house_10 : decode cX11_house 10 = .ok (.iload_n 2, 1) := by decide +kernel
theorem dX11_house_11 : decode cX11_house 11 = .ok (.iconst 0, 1) := by decide +kernel
theorem dX11_house_12 : decode cX11_house 12 = .ok (.bipush 7, 2) := by decide +kernel
theorem dX11_house_14 : decode cX11_house 14 = .ok (.invokestatic 18, 3) := by decide +kernel
theorem dX11_house_17 : decode cX11_house 17 = .ok (.ifCond .ne 9, 3) := by decide +kernel
theorem dX11_house_20 : decode cX11_house 20 = .ok (.aload_n 0, 1) := by decide +kernel
theorem dX11_house_21 : decode cX11_house 21 = .ok (.iconst (-1), 1) := by decide +kernel
theorem dX11_house_22 : decode cX11_house 22 = .ok (.invokevirtual 112, 3) := by decide +kernel
theorem dX11_house_25 : decode cX11_house 25 = .ok (.ireturn, 1) := by decide +kernel
theorem dX11_house_26 : decode cX11_house 26 = .ok (.aload_n 0, 1) := by decide +kernel
theorem dX11_house_27 : decode cX11_house 27 = .ok (.invokevirtual 118, 3) := by decide +kernel
theorem dX11_house_30 : decode cX11_house 30 = .ok (.istore_n 3, 1) := by decide +kernel
theorem dX11_house_31 : decode cX11_house 31 = .ok (.iload_n 3, 1) := by decide +kernel
theorem dX11_house_32 : decode cX11_house 32 = .ok (.bipush 6, 2) := by decide +kernel
theorem dX11_house_34 : decode cX11_house 34 = .ok (.if_icmp .ne 10, 3) := by decide +kernel
theorem dX11_house_37 : decode cX11_house 37 = .ok (.aload_n 0, 1) := by decide +kernel
theorem dX11_house_38 : decode cX11_house 38 = .ok (.bipush (-5), 2) := by decide +kernel
theorem dX11_house_40 : decode cX11_house 40 = .ok (.invokevirtual 112, 3) := by decide +kernel
theorem dX11_house_43 : decode cX11_house 43 = .ok (.ireturn, 1) := by decide +kernel
theorem dX11_house_44 : decode cX11_house 44 = .ok (.aload_n 0, 1) := by decide +kernel
theorem dX11_house_45 : decode cX11_house 45 = .ok (.getfield 28, 3) := by decide +kernel
theorem dX11_house_48 : decode cX11_house 48 = .ok (.bipush 25, 2) := by decide +kernel
theorem dX11_house_50 : decode cX11_house 50 = .ok (.iload_n 3, 1) := by decide +kernel
theorem dX11_house_51 : decode cX11_house 51 = .ok (.iadd, 1) := by decide +kernel
theorem dX11_house_52 : decode cX11_house 52 = .ok (.iload_n 1, 1) := by decide +kernel
theorem dX11_house_53 : decode cX11_house 53 = .ok (.iastore, 1) := by decide +kernel
theorem dX11_house_54 : decode cX11_house 54 = .ok (.aload_n 0, 1) := by decide +kernel
theorem dX11_house_55 : decode cX11_house 55 = .ok (.getfield 28, 3) := by decide +kernel
theorem dX11_house_58 : decode cX11_house 58 = .ok (.bipush 31, 2) := by decide +kernel
theorem dX11_house_60 : decode cX11_house 60 = .ok (.iload_n 3, 1) := by decide +kernel
theorem dX11_house_61 : decode cX11_house 61 = .ok (.iadd, 1) := by decide +kernel
theorem dX11_house_62 : decode cX11_house 62 = .ok (.iload_n 2, 1) := by decide +kernel
theorem dX11_house_63 : decode cX11_house 63 = .ok (.iastore, 1) := by decide +kernel
theorem dX11_house_64 : decode cX11_house 64 = .ok (.aload_n 0, 1) := by decide +kernel
theorem dX11_house_65 : decode cX11_house 65 = .ok (.getfield 28, 3) := by decide +kernel
theorem dX11_house_68 : decode cX11_house 68 = .ok (.bipush 45, 2) := by decide +kernel
theorem dX11_house_70 : decode cX11_house 70 = .ok (.dup2, 1) := by decide +kernel
theorem dX11_house_71 : decode cX11_house 71 = .ok (.iaload, 1) := by decide +kernel
theorem dX11_house_72 : decode cX11_house 72 = .ok (.iconst 1, 1) := by decide +kernel
theorem dX11_house_73 : decode cX11_house 73 = .ok (.iadd, 1) := by decide +kernel
theorem dX11_house_74 : decode cX11_house 74 = .ok (.iastore, 1) := by decide +kernel
theorem dX11_house_75 : decode cX11_house 75 = .ok (.aload_n 0, 1) := by decide +kernel
theorem dX11_house_76 : decode cX11_house 76 = .ok (.iload_n 3, 1) := by decide +kernel
theorem dX11_house_77 : decode cX11_house 77 = .ok (.invokevirtual 115, 3) := by decide +kernel
theorem dX11_house_80 : decode cX11_house 80 = .ok (.ireturn, 1) := by decide +kernel
theorem dX11_ownedBy_0 : decode cX11_ownedBy 0 = .ok (.iconst 0, 1) := by decide +kernel
theorem dX11_ownedBy_1 : decode cX11_ownedBy 1 = .ok (.istore_n 2, 1) := by decide +kernel
theorem dX11_ownedBy_2 : decode cX11_ownedBy 2 = .ok (.iconst 0, 1) := by decide +kernel
theorem dX11_ownedBy_3 : decode cX11_ownedBy 3 = .ok (.istore_n 3, 1) := by decide +kernel
theorem dX11_ownedBy_4 : decode cX11_ownedBy 4 = .ok (.iload_n 3, 1) := by decide +kernel
theorem dX11_ownedBy_5 : decode cX11_ownedBy 5 = .ok (.bipush 8, 2) := by decide +kernel
theorem dX11_ownedBy_7 : decode cX11_ownedBy 7 = .ok (.if_icmp .ge 31, 3) := by decide +kernel
theorem dX11_ownedBy_10 : decode cX11_ownedBy 10 = .ok (.iload_n 2, 1) := by decide +kernel
theorem dX11_ownedBy_11 : decode cX11_ownedBy 11 = .ok (.aload_n 0, 1) := by decide +kernel
theorem dX11_ownedBy_12 : decode cX11_ownedBy 12 = .ok (.getfield 28, 3) := by decide +kernel
theorem dX11_ownedBy_15 : decode cX11_ownedBy 15 = .ok (.iconst 0, 1) := by decide +kernel
theorem dX11_ownedBy_16 : decode cX11_ownedBy 16 = .ok (.iload_n 3, 1) := by decide +kernel
theorem dX11_ownedBy_17 : decode cX11_ownedBy 17 = .ok (.iadd, 1) := by decide +kernel
theorem dX11_ownedBy_18 : decode cX11_ownedBy 18 = .ok (.iaload, 1) := by decide +kernel
theorem dX11_ownedBy_19 : decode cX11_ownedBy 19 = .ok (.iload_n 1, 1) := by decide +kernel
theorem dX11_ownedBy_20 : decode cX11_ownedBy 20 = .ok (.if_icmp .ne 9, 3) := by decide +kernel
theorem dX11_ownedBy_23 : decode cX11_ownedBy 23 = .ok (.iconst 1, 1) := by decide +kernel
theorem dX11_ownedBy_24 : decode cX11_ownedBy 24 = .ok (.iload_n 3, 1) := by decide +kernel
theorem dX11_ownedBy_25 : decode cX11_ownedBy 25 = .ok (.ishl, 1) := by decide +kernel
theorem dX11_ownedBy_26 : decode cX11_ownedBy 26 = .ok (.goto 4, 3) := by decide +kernel
theorem dX11_ownedBy_29 : decode cX11_ownedBy 29 = .ok (.iconst 0, 1) := by decide +kernel
theorem dX11_ownedBy_30 : decode cX11_ownedBy 30 = .ok (.ior, 1) := by decide +kernel
theorem dX11_ownedBy_31 : decode cX11_ownedBy 31 = .ok (.istore_n 2, 1) := by decide +kernel
theorem dX11_ownedBy_32 : decode cX11_ownedBy 32 = .ok (.iinc 3 1, 3) := by decide +kernel
theorem dX11_ownedBy_35 : decode cX11_ownedBy 35 = .ok (.goto (-31), 3) := by decide +kernel
theorem dX11_ownedBy_38 : decode cX11_ownedBy 38 = .ok (.iload_n 2, 1) := by decide +kernel
theorem dX11_ownedBy_39 : decode cX11_ownedBy 39 = .ok (.ireturn, 1) := by decide +kernel
theorem dX11_of_0 : decode cX11_of 0 = .ok (.aload_n 0, 1) := by decide +kernel
theorem dX11_of_1 : decode cX11_of 1 = .ok (.iload_n 1, 1) := by decide +kernel
theorem dX11_of_2 : decode cX11_of 2 = .ok (.invokevirtual 128, 3) := by decide +kernel
theorem dX11_of_5 : decode cX11_of 5 = .ok (.ifCond .ne 5, 3) := by decide +kernel
theorem dX11_of_8 : decode cX11_of 8 = .ok (.iconst (-1), 1) := by decide +kernel
theorem dX11_of_9 : decode cX11_of 9 = .ok (.ireturn, 1) := by decide +kernel
theorem dX11_of_10 : decode cX11_of 10 = .ok (.iload_n 2, 1) := by decide +kernel
theorem dX11_of_11 : decode cX11_of 11 = .ok (.tableswitch 51 0 2 #[25, 35, 45], 25) := by decide +kernel
theorem dX11_of_36 : decode cX11_of 36 = .ok (.aload_n 0, 1) := by decide +kernel
theorem dX11_of_37 : decode cX11_of 37 = .ok (.getfield 28, 3) := by decide +kernel
theorem dX11_of_40 : decode cX11_of 40 = .ok (.bipush 25, 2) := by decide +kernel
theorem dX11_of_42 : decode cX11_of 42 = .ok (.iload_n 1, 1) := by decide +kernel
theorem dX11_of_43 : decode cX11_of 43 = .ok (.iadd, 1) := by decide +kernel
theorem dX11_of_44 : decode cX11_of 44 = .ok (.iaload, 1) := by decide +kernel
theorem dX11_of_45 : decode cX11_of 45 = .ok (.ireturn, 1) := by decide +kernel
theorem dX11_of_46 : decode cX11_of 46 = .ok (.aload_n 0, 1) := by decide +kernel
theorem dX11_of_47 : decode cX11_of 47 = .ok (.getfield 28, 3) := by decide +kernel
theorem dX11_of_50 : decode cX11_of 50 = .ok (.bipush 31, 2) := by decide +kernel
theorem dX11_of_52 : decode cX11_of 52 = .ok (.iload_n 1, 1) := by decide +kernel
theorem dX11_of_53 : decode cX11_of 53 = .ok (.iadd, 1) := by decide +kernel
theorem dX11_of_54 : decode cX11_of 54 = .ok (.iaload, 1) := by decide +kernel
theorem dX11_of_55 : decode cX11_of 55 = .ok (.ireturn, 1) := by decide +kernel
theorem dX11_of_56 : decode cX11_of 56 = .ok (.aload_n 0, 1) := by decide +kernel
theorem dX11_of_57 : decode cX11_of 57 = .ok (.iload_n 1, 1) := by decide +kernel
theorem dX11_of_58 : decode cX11_of 58 = .ok (.invokevirtual 132, 3) := by decide +kernel
theorem dX11_of_61 : decode cX11_of 61 = .ok (.ireturn, 1) := by decide +kernel
theorem dX11_of_62 : decode cX11_of 62 = .ok (.iconst (-1), 1) := by decide +kernel
theorem dX11_of_63 : decode cX11_of 63 = .ok (.ireturn, 1) := by decide +kernel
theorem dX11_owner_0 : decode cX11_owner 0 = .ok (.iload_n 1, 1) := by decide +kernel
theorem dX11_owner_1 : decode cX11_owner 1 = .ok (.invokestatic 135, 3) := by decide +kernel
theorem dX11_owner_4 : decode cX11_owner 4 = .ok (.ifCond .eq 14, 3) := by decide +kernel
theorem dX11_owner_7 : decode cX11_owner 7 = .ok (.aload_n 0, 1) := by decide +kernel
theorem dX11_owner_8 : decode cX11_owner 8 = .ok (.getfield 28, 3) := by decide +kernel
theorem dX11_owner_11 : decode cX11_owner 11 = .ok (.iconst 0, 1) := by decide +kernel
theorem dX11_owner_12 : decode cX11_owner 12 = .ok (.iload_n 1, 1) := by decide +kernel
theorem dX11_owner_13 : decode cX11_owner 13 = .ok (.iadd, 1) := by decide +kernel
theorem dX11_owner_14 : decode cX11_owner 14 = .ok (.iaload, 1) := by decide +kernel
theorem dX11_owner_15 : decode cX11_owner 15 = .ok (.goto 4, 3) := by decide +kernel
theorem dX11_owner_18 : decode cX11_owner 18 = .ok (.iconst (-1), 1) := by decide +kernel
theorem dX11_owner_19 : decode cX11_owner 19 = .ok (.ireturn, 1) := by decide +kernel
theorem dX11_music_0 : decode cX11_music 0 = .ok (.iload_n 1, 1) := by decide +kernel
theorem dX11_music_1 : decode cX11_music 1 = .ok (.invokestatic 138, 3) := by decide +kernel
theorem dX11_music_4 : decode cX11_music 4 = .ok (.ifCond .eq 11, 3) := by decide +kernel
theorem dX11_music_7 : decode cX11_music 7 = .ok (.aload_n 0, 1) := by decide +kernel
theorem dX11_music_8 : decode cX11_music 8 = .ok (.iload_n 1, 1) := by decide +kernel
theorem dX11_music_9 : decode cX11_music 9 = .ok (.invokevirtual 122, 3) := by decide +kernel
theorem dX11_music_12 : decode cX11_music 12 = .ok (.goto 4, 3) := by decide +kernel
theorem dX11_music_15 : decode cX11_music 15 = .ok (.iconst (-1), 1) := by decide +kernel
theorem dX11_music_16 : decode cX11_music 16 = .ok (.ireturn, 1) := by decide +kernel
theorem dX11_asks_0 : decode cX11_asks 0 = .ok (.aload_n 0, 1) := by decide +kernel
theorem dX11_asks_1 : decode cX11_asks 1 = .ok (.iload_n 1, 1) := by decide +kernel
theorem dX11_asks_2 : decode cX11_asks 2 = .ok (.invokevirtual 128, 3) := by decide +kernel
theorem dX11_asks_5 : decode cX11_asks 5 = .ok (.ifCond .eq 17, 3) := by decide +kernel
theorem dX11_asks_8 : decode cX11_asks 8 = .ok (.iload_n 2, 1) := by decide +kernel
theorem dX11_asks_9 : decode cX11_asks 9 = .ok (.invokestatic 135, 3) := by decide +kernel
theorem dX11_asks_12 : decode cX11_asks 12 = .ok (.ifCond .eq 10, 3) := by decide +kernel
theorem dX11_asks_15 : decode cX11_asks 15 = .ok (.iload_n 3, 1) := by decide +kernel
theorem dX11_asks_16 : decode cX11_asks 16 = .ok (.invokestatic 138, 3) := by decide +kernel
theorem dX11_asks_19 : decode cX11_asks 19 = .ok (.ifCond .ne 5, 3) := by decide +kernel
theorem dX11_asks_22 : decode cX11_asks 22 = .ok (.iconst (-1), 1) := by decide +kernel
theorem dX11_asks_23 : decode cX11_asks 23 = .ok (.ireturn, 1) := by decide +kernel
theorem dX11_asks_24 : decode cX11_asks 24 = .ok (.iload 4, 2) := by decide +kernel
theorem dX11_asks_26 : decode cX11_asks 26 = .ok (.lookupswitch 50 #[(0, 26), (1, 34)], 26) := by decide +kernel
theorem dX11_asks_52 : decode cX11_asks 52 = .ok (.aload_n 0, 1) := by decide +kernel
theorem dX11_asks_53 : decode cX11_asks 53 = .ok (.iload_n 1, 1) := by decide +kernel
theorem dX11_asks_54 : decode cX11_asks 54 = .ok (.iload_n 2, 1) := by decide +kernel
theorem dX11_asks_55 : decode cX11_asks 55 = .ok (.iload_n 3, 1) := by decide +kernel
theorem dX11_asks_56 : decode cX11_asks 56 = .ok (.invokevirtual 141, 3) := by decide +kernel
theorem dX11_asks_59 : decode cX11_asks 59 = .ok (.ireturn, 1) := by decide +kernel
theorem dX11_asks_60 : decode cX11_asks 60 = .ok (.aload_n 0, 1) := by decide +kernel
theorem dX11_asks_61 : decode cX11_asks 61 = .ok (.iload_n 1, 1) := by decide +kernel
theorem dX11_asks_62 : decode cX11_asks 62 = .ok (.iload_n 2, 1) := by decide +kernel
theorem dX11_asks_63 : decode cX11_asks 63 = .ok (.iload_n 3, 1) := by decide +kernel
theorem dX11_asks_64 : decode cX11_asks 64 = .ok (.invokevirtual 145, 3) := by decide +kernel
theorem dX11_asks_67 : decode cX11_asks 67 = .ok (.ifCond .eq 7, 3) := by decide +kernel
theorem dX11_asks_70 : decode cX11_asks 70 = .ok (.iconst 1, 1) := by decide +kernel
theorem dX11_asks_71 : decode cX11_asks 71 = .ok (.goto 4, 3) := by decide +kernel
theorem dX11_asks_74 : decode cX11_asks 74 = .ok (.iconst 0, 1) := by decide +kernel
theorem dX11_asks_75 : decode cX11_asks 75 = .ok (.ireturn, 1) := by decide +kernel
theorem dX11_asks_76 : decode cX11_asks 76 = .ok (.iconst (-1), 1) := by decide +kernel
theorem dX11_asks_77 : decode cX11_asks 77 = .ok (.ireturn, 1) := by decide +kernel
theorem dX11_isTerm_0 : decode cX11_isTerm 0 = .ok (.iload_n 0, 1) := by decide +kernel
theorem dX11_isTerm_1 : decode cX11_isTerm 1 = .ok (.tableswitch 52 0 2 #[27, 36, 44], 27) := by decide +kernel
theorem dX11_isTerm_28 : decode cX11_isTerm 28 = .ok (.iload_n 1, 1) := by decide +kernel
theorem dX11_isTerm_29 : decode cX11_isTerm 29 = .ok (.iconst 0, 1) := by decide +kernel
theorem dX11_isTerm_30 : decode cX11_isTerm 30 = .ok (.sipush 999, 3) := by decide +kernel
theorem dX11_isTerm_33 : decode cX11_isTerm 33 = .ok (.invokestatic 18, 3) := by decide +kernel
theorem dX11_isTerm_36 : decode cX11_isTerm 36 = .ok (.ireturn, 1) := by decide +kernel
theorem dX11_isTerm_37 : decode cX11_isTerm 37 = .ok (.iload_n 1, 1) := by decide +kernel
theorem dX11_isTerm_38 : decode cX11_isTerm 38 = .ok (.iconst 0, 1) := by decide +kernel
theorem dX11_isTerm_39 : decode cX11_isTerm 39 = .ok (.bipush 10, 2) := by decide +kernel
theorem dX11_isTerm_41 : decode cX11_isTerm 41 = .ok (.invokestatic 18, 3) := by decide +kernel
theorem dX11_isTerm_44 : decode cX11_isTerm 44 = .ok (.ireturn, 1) := by decide +kernel
theorem dX11_isTerm_45 : decode cX11_isTerm 45 = .ok (.iload_n 1, 1) := by decide +kernel
theorem dX11_isTerm_46 : decode cX11_isTerm 46 = .ok (.iconst 0, 1) := by decide +kernel
theorem dX11_isTerm_47 : decode cX11_isTerm 47 = .ok (.bipush 9, 2) := by decide +kernel
theorem dX11_isTerm_49 : decode cX11_isTerm 49 = .ok (.invokestatic 18, 3) := by decide +kernel
theorem dX11_isTerm_52 : decode cX11_isTerm 52 = .ok (.ireturn, 1) := by decide +kernel
theorem dX11_isTerm_53 : decode cX11_isTerm 53 = .ok (.iconst 0, 1) := by decide +kernel
theorem dX11_isTerm_54 : decode cX11_isTerm 54 = .ok (.ireturn, 1) := by decide +kernel
theorem dX11_termAt_0 : decode cX11_termAt 0 = .ok (.iload_n 0, 1) := by decide +kernel
theorem dX11_termAt_1 : decode cX11_termAt 1 = .ok (.ifCond .ne 8, 3) := by decide +kernel
theorem dX11_termAt_4 : decode cX11_termAt 4 = .ok (.bipush 24, 2) := by decide +kernel
theorem dX11_termAt_6 : decode cX11_termAt 6 = .ok (.goto 15, 3) := by decide +kernel
theorem dX11_termAt_9 : decode cX11_termAt 9 = .ok (.iload_n 0, 1) := by decide +kernel
theorem dX11_termAt_10 : decode cX11_termAt 10 = .ok (.iconst 1, 1) := by decide +kernel
theorem dX11_termAt_11 : decode cX11_termAt 11 = .ok (.if_icmp .ne 8, 3) := by decide +kernel
theorem dX11_termAt_14 : decode cX11_termAt 14 = .ok (.bipush 43, 2) := by decide +kernel
theorem dX11_termAt_16 : decode cX11_termAt 16 = .ok (.goto 5, 3) := by decide +kernel
theorem dX11_termAt_19 : decode cX11_termAt 19 = .ok (.bipush 44, 2) := by decide +kernel
theorem dX11_termAt_21 : decode cX11_termAt 21 = .ok (.ireturn, 1) := by decide +kernel
theorem dX11_terms_0 : decode cX11_terms 0 = .ok (.iload_n 1, 1) := by decide +kernel
theorem dX11_terms_1 : decode cX11_terms 1 = .ok (.iload_n 2, 1) := by decide +kernel
theorem dX11_terms_2 : decode cX11_terms 2 = .ok (.invokestatic 148, 3) := by decide +kernel
theorem dX11_terms_5 : decode cX11_terms 5 = .ok (.ifCond .ne 9, 3) := by decide +kernel
theorem dX11_terms_8 : decode cX11_terms 8 = .ok (.aload_n 0, 1) := by decide +kernel
theorem dX11_terms_9 : decode cX11_terms 9 = .ok (.iconst (-1), 1) := by decide +kernel
theorem dX11_terms_10 : decode cX11_terms 10 = .ok (.invokevirtual 112, 3) := by decide +kernel
theorem dX11_terms_13 : decode cX11_terms 13 = .ok (.ireturn, 1) := by decide +kernel
theorem dX11_terms_14 : decode cX11_terms 14 = .ok (.aload_n 0, 1) := by decide +kernel
theorem dX11_terms_15 : decode cX11_terms 15 = .ok (.getfield 28, 3) := by decide +kernel
theorem dX11_terms_18 : decode cX11_terms 18 = .ok (.iload_n 1, 1) := by decide +kernel
theorem dX11_terms_19 : decode cX11_terms 19 = .ok (.invokestatic 152, 3) := by decide +kernel
theorem dX11_terms_22 : decode cX11_terms 22 = .ok (.iaload, 1) := by decide +kernel
theorem dX11_terms_23 : decode cX11_terms 23 = .ok (.istore_n 3, 1) := by decide +kernel
theorem dX11_terms_24 : decode cX11_terms 24 = .ok (.aload_n 0, 1) := by decide +kernel
theorem dX11_terms_25 : decode cX11_terms 25 = .ok (.getfield 28, 3) := by decide +kernel
theorem dX11_terms_28 : decode cX11_terms 28 = .ok (.iload_n 1, 1) := by decide +kernel
theorem dX11_terms_29 : decode cX11_terms 29 = .ok (.invokestatic 152, 3) := by decide +kernel
theorem dX11_terms_32 : decode cX11_terms 32 = .ok (.iload_n 2, 1) := by decide +kernel
theorem dX11_terms_33 : decode cX11_terms 33 = .ok (.iastore, 1) := by decide +kernel
theorem dX11_terms_34 : decode cX11_terms 34 = .ok (.aload_n 0, 1) := by decide +kernel
theorem dX11_terms_35 : decode cX11_terms 35 = .ok (.iload_n 3, 1) := by decide +kernel
theorem dX11_terms_36 : decode cX11_terms 36 = .ok (.invokevirtual 115, 3) := by decide +kernel
theorem dX11_terms_39 : decode cX11_terms 39 = .ok (.ireturn, 1) := by decide +kernel
theorem dX11_row_0 : decode cX11_row 0 = .ok (.aload_n 0, 1) := by decide +kernel
theorem dX11_row_1 : decode cX11_row 1 = .ok (.getfield 155, 3) := by decide +kernel
theorem dX11_row_4 : decode cX11_row 4 = .ok (.istore_n 1, 1) := by decide +kernel
theorem dX11_row_5 : decode cX11_row 5 = .ok (.aload_n 0, 1) := by decide +kernel
theorem dX11_row_6 : decode cX11_row 6 = .ok (.iconst 0, 1) := by decide +kernel
theorem dX11_row_7 : decode cX11_row 7 = .ok (.putfield 155, 3) := by decide +kernel
theorem dX11_row_10 : decode cX11_row 10 = .ok (.iload_n 1, 1) := by decide +kernel
theorem dX11_row_11 : decode cX11_row 11 = .ok (.ifCond .ne 10, 3) := by decide +kernel
theorem dX11_row_14 : decode cX11_row 14 = .ok (.aload_n 0, 1) := by decide +kernel
theorem dX11_row_15 : decode cX11_row 15 = .ok (.bipush (-6), 2) := by decide +kernel
theorem dX11_row_17 : decode cX11_row 17 = .ok (.invokevirtual 112, 3) := by decide +kernel
theorem dX11_row_20 : decode cX11_row 20 = .ok (.ireturn, 1) := by decide +kernel
theorem dX11_row_21 : decode cX11_row 21 = .ok (.iconst 0, 1) := by decide +kernel
theorem dX11_row_22 : decode cX11_row 22 = .ok (.istore_n 2, 1) := by decide +kernel
theorem dX11_row_23 : decode cX11_row 23 = .ok (.aload_n 0, 1) := by decide +kernel
theorem dX11_row_24 : decode cX11_row 24 = .ok (.iload_n 1, 1) := by decide +kernel
theorem dX11_row_25 : decode cX11_row 25 = .ok (.iconst 2, 1) := by decide +kernel
theorem dX11_row_26 : decode cX11_row 26 = .ok (.irem, 1) := by decide +kernel
theorem dX11_row_27 : decode cX11_row 27 = .ok (.putfield 158, 3) := by decide +kernel
theorem dX11_row_30 : decode cX11_row 30 = .ok (.iconst 0, 1) := by decide +kernel
theorem dX11_row_31 : decode cX11_row 31 = .ok (.istore_n 3, 1) := by decide +kernel
theorem dX11_row_32 : decode cX11_row 32 = .ok (.iload_n 3, 1) := by decide +kernel
theorem dX11_row_33 : decode cX11_row 33 = .ok (.iconst 2, 1) := by decide +kernel
theorem dX11_row_34 : decode cX11_row 34 = .ok (.iadd, 1) := by decide +kernel
theorem dX11_row_35 : decode cX11_row 35 = .ok (.iload_n 1, 1) := by decide +kernel
theorem dX11_row_36 : decode cX11_row 36 = .ok (.if_icmp .gt 63, 3) := by decide +kernel
theorem dX11_row_39 : decode cX11_row 39 = .ok (.aload_n 0, 1) := by decide +kernel
theorem dX11_row_40 : decode cX11_row 40 = .ok (.getfield 45, 3) := by decide +kernel
theorem dX11_row_43 : decode cX11_row 43 = .ok (.iload_n 3, 1) := by decide +kernel
theorem dX11_row_44 : decode cX11_row 44 = .ok (.baload, 1) := by decide +kernel
theorem dX11_row_45 : decode cX11_row 45 = .ok (.invokestatic 138, 3) := by decide +kernel
theorem dX11_row_48 : decode cX11_row 48 = .ok (.ifCond .eq 35, 3) := by decide +kernel
theorem dX11_row_51 : decode cX11_row 51 = .ok (.aload_n 0, 1) := by decide +kernel
theorem dX11_row_52 : decode cX11_row 52 = .ok (.getfield 28, 3) := by decide +kernel
theorem dX11_row_55 : decode cX11_row 55 = .ok (.bipush 8, 2) := by decide +kernel
theorem dX11_row_57 : decode cX11_row 57 = .ok (.aload_n 0, 1) := by decide +kernel
theorem dX11_row_58 : decode cX11_row 58 = .ok (.getfield 45, 3) := by decide +kernel
theorem dX11_row_61 : decode cX11_row 61 = .ok (.iload_n 3, 1) := by decide +kernel
theorem dX11_row_62 : decode cX11_row 62 = .ok (.baload, 1) := by decide +kernel
theorem dX11_row_63 : decode cX11_row 63 = .ok (.iadd, 1) := by decide +kernel
theorem dX11_row_64 : decode cX11_row 64 = .ok (.aload_n 0, 1) := by decide +kernel
theorem dX11_row_65 : decode cX11_row 65 = .ok (.getfield 45, 3) := by decide +kernel
theorem dX11_row_68 : decode cX11_row 68 = .ok (.iload_n 3, 1) := by decide +kernel
theorem dX11_row_69 : decode cX11_row 69 = .ok (.iconst 1, 1) := by decide +kernel
theorem dX11_row_70 : decode cX11_row 70 = .ok (.iadd, 1) := by decide +kernel
theorem dX11_row_71 : decode cX11_row 71 = .ok (.baload, 1) := by decide +kernel
theorem dX11_row_72 : decode cX11_row 72 = .ok (.sipush 255, 3) := by decide +kernel
theorem dX11_row_75 : decode cX11_row 75 = .ok (.iand, 1) := by decide +kernel
theorem dX11_row_76 : decode cX11_row 76 = .ok (.iastore, 1) := by decide +kernel
theorem dX11_row_77 : decode cX11_row 77 = .ok (.iinc 2 1, 3) := by decide +kernel
theorem dX11_row_80 : decode cX11_row 80 = .ok (.goto 13, 3) := by decide +kernel
theorem dX11_row_83 : decode cX11_row 83 = .ok (.aload_n 0, 1) := by decide +kernel
theorem dX11_row_84 : decode cX11_row 84 = .ok (.dup, 1) := by decide +kernel
theorem dX11_row_85 : decode cX11_row 85 = .ok (.getfield 158, 3) := by decide +kernel
theorem dX11_row_88 : decode cX11_row 88 = .ok (.iconst 1, 1) := by decide +kernel
theorem dX11_row_89 : decode cX11_row 89 = .ok (.iadd, 1) := by decide +kernel
theorem dX11_row_90 : decode cX11_row 90 = .ok (.putfield 158, 3) := by decide +kernel
theorem dX11_row_93 : decode cX11_row 93 = .ok (.iinc 3 2, 3) := by decide +kernel
theorem dX11_row_96 : decode cX11_row 96 = .ok (.goto (-64), 3) := by decide +kernel
theorem dX11_row_99 : decode cX11_row 99 = .ok (.aload_n 0, 1) := by decide +kernel
theorem dX11_row_100 : decode cX11_row 100 = .ok (.iload_n 2, 1) := by decide +kernel
theorem dX11_row_101 : decode cX11_row 101 = .ok (.invokevirtual 115, 3) := by decide +kernel
theorem dX11_row_104 : decode cX11_row 104 = .ok (.ireturn, 1) := by decide +kernel
theorem dX11_creaks_0 : decode cX11_creaks 0 = .ok (.aload_n 0, 1) := by decide +kernel
theorem dX11_creaks_1 : decode cX11_creaks 1 = .ok (.getfield 158, 3) := by decide +kernel
theorem dX11_creaks_4 : decode cX11_creaks 4 = .ok (.ireturn, 1) := by decide +kernel
theorem dX11_feed_0 : decode cX11_feed 0 = .ok (.aload_n 0, 1) := by decide +kernel
theorem dX11_feed_1 : decode cX11_feed 1 = .ok (.getfield 155, 3) := by decide +kernel
theorem dX11_feed_4 : decode cX11_feed 4 = .ok (.bipush 20, 2) := by decide +kernel
theorem dX11_feed_6 : decode cX11_feed 6 = .ok (.iadd, 1) := by decide +kernel
theorem dX11_feed_7 : decode cX11_feed 7 = .ok (.sipush 400, 3) := by decide +kernel
theorem dX11_feed_10 : decode cX11_feed 10 = .ok (.if_icmp .le 5, 3) := by decide +kernel
theorem dX11_feed_13 : decode cX11_feed 13 = .ok (.iconst (-1), 1) := by decide +kernel
theorem dX11_feed_14 : decode cX11_feed 14 = .ok (.ireturn, 1) := by decide +kernel
theorem dX11_feed_15 : decode cX11_feed 15 = .ok (.aload_n 0, 1) := by decide +kernel
theorem dX11_feed_16 : decode cX11_feed 16 = .ok (.getfield 48, 3) := by decide +kernel
theorem dX11_feed_19 : decode cX11_feed 19 = .ok (.iconst 0, 1) := by decide +kernel
theorem dX11_feed_20 : decode cX11_feed 20 = .ok (.iload_n 1, 1) := by decide +kernel
theorem dX11_feed_21 : decode cX11_feed 21 = .ok (.iastore, 1) := by decide +kernel
theorem dX11_feed_22 : decode cX11_feed 22 = .ok (.aload_n 0, 1) := by decide +kernel
theorem dX11_feed_23 : decode cX11_feed 23 = .ok (.getfield 48, 3) := by decide +kernel
theorem dX11_feed_26 : decode cX11_feed 26 = .ok (.iconst 1, 1) := by decide +kernel
theorem dX11_feed_27 : decode cX11_feed 27 = .ok (.iload_n 2, 1) := by decide +kernel
theorem dX11_feed_28 : decode cX11_feed 28 = .ok (.iastore, 1) := by decide +kernel
theorem dX11_feed_29 : decode cX11_feed 29 = .ok (.aload_n 0, 1) := by decide +kernel
theorem dX11_feed_30 : decode cX11_feed 30 = .ok (.getfield 48, 3) := by decide +kernel
theorem dX11_feed_33 : decode cX11_feed 33 = .ok (.iconst 2, 1) := by decide +kernel
theorem dX11_feed_34 : decode cX11_feed 34 = .ok (.iload_n 3, 1) := by decide +kernel
theorem dX11_feed_35 : decode cX11_feed 35 = .ok (.iastore, 1) := by decide +kernel
theorem dX11_feed_36 : decode cX11_feed 36 = .ok (.aload_n 0, 1) := by decide +kernel
theorem dX11_feed_37 : decode cX11_feed 37 = .ok (.getfield 48, 3) := by decide +kernel
theorem dX11_feed_40 : decode cX11_feed 40 = .ok (.iconst 3, 1) := by decide +kernel
theorem dX11_feed_41 : decode cX11_feed 41 = .ok (.iload 4, 2) := by decide +kernel
theorem dX11_feed_43 : decode cX11_feed 43 = .ok (.iastore, 1) := by decide +kernel
theorem dX11_feed_44 : decode cX11_feed 44 = .ok (.aload_n 0, 1) := by decide +kernel
theorem dX11_feed_45 : decode cX11_feed 45 = .ok (.getfield 48, 3) := by decide +kernel
theorem dX11_feed_48 : decode cX11_feed 48 = .ok (.iconst 4, 1) := by decide +kernel
theorem dX11_feed_49 : decode cX11_feed 49 = .ok (.iload 5, 2) := by decide +kernel
theorem dX11_feed_51 : decode cX11_feed 51 = .ok (.iastore, 1) := by decide +kernel
theorem dX11_feed_52 : decode cX11_feed 52 = .ok (.iconst 0, 1) := by decide +kernel
theorem dX11_feed_53 : decode cX11_feed 53 = .ok (.istore 6, 2) := by decide +kernel
theorem dX11_feed_55 : decode cX11_feed 55 = .ok (.iload 6, 2) := by decide +kernel
theorem dX11_feed_57 : decode cX11_feed 57 = .ok (.bipush 20, 2) := by decide +kernel
theorem dX11_feed_59 : decode cX11_feed 59 = .ok (.if_icmp .ge 42, 3) := by decide +kernel
theorem dX11_feed_62 : decode cX11_feed 62 = .ok (.aload_n 0, 1) := by decide +kernel
theorem dX11_feed_63 : decode cX11_feed 63 = .ok (.getfield 45, 3) := by decide +kernel
theorem dX11_feed_66 : decode cX11_feed 66 = .ok (.aload_n 0, 1) := by decide +kernel
theorem dX11_feed_67 : decode cX11_feed 67 = .ok (.getfield 155, 3) := by decide +kernel
theorem dX11_feed_70 : decode cX11_feed 70 = .ok (.iload 6, 2) := by decide +kernel
theorem dX11_feed_72 : decode cX11_feed 72 = .ok (.iadd, 1) := by decide +kernel
theorem dX11_feed_73 : decode cX11_feed 73 = .ok (.aload_n 0, 1) := by decide +kernel
theorem dX11_feed_74 : decode cX11_feed 74 = .ok (.getfield 48, 3) := by decide +kernel
theorem dX11_feed_77 : decode cX11_feed 77 = .ok (.iload 6, 2) := by decide +kernel
theorem dX11_feed_79 : decode cX11_feed 79 = .ok (.iconst 4, 1) := by decide +kernel
theorem dX11_feed_80 : decode cX11_feed 80 = .ok (.idiv, 1) := by decide +kernel
theorem dX11_feed_81 : decode cX11_feed 81 = .ok (.iaload, 1) := by decide +kernel
theorem dX11_feed_82 : decode cX11_feed 82 = .ok (.bipush 24, 2) := by decide +kernel
theorem dX11_feed_84 : decode cX11_feed 84 = .ok (.bipush 8, 2) := by decide +kernel
theorem dX11_feed_86 : decode cX11_feed 86 = .ok (.iload 6, 2) := by decide +kernel
theorem dX11_feed_88 : decode cX11_feed 88 = .ok (.iconst 4, 1) := by decide +kernel
theorem dX11_feed_89 : decode cX11_feed 89 = .ok (.irem, 1) := by decide +kernel
theorem dX11_feed_90 : decode cX11_feed 90 = .ok (.imul, 1) := by decide +kernel
theorem dX11_feed_91 : decode cX11_feed 91 = .ok (.isub, 1) := by decide +kernel
theorem dX11_feed_92 : decode cX11_feed 92 = .ok (.ishr, 1) := by decide +kernel
theorem dX11_feed_93 : decode cX11_feed 93 = .ok (.i2b, 1) := by decide +kernel
theorem dX11_feed_94 : decode cX11_feed 94 = .ok (.bastore, 1) := by decide +kernel
theorem dX11_feed_95 : decode cX11_feed 95 = .ok (.iinc 6 1, 3) := by decide +kernel
theorem dX11_feed_98 : decode cX11_feed 98 = .ok (.goto (-43), 3) := by decide +kernel
theorem dX11_feed_101 : decode cX11_feed 101 = .ok (.aload_n 0, 1) := by decide +kernel
theorem dX11_feed_102 : decode cX11_feed 102 = .ok (.dup, 1) := by decide +kernel
theorem dX11_feed_103 : decode cX11_feed 103 = .ok (.getfield 155, 3) := by decide +kernel
theorem dX11_feed_106 : decode cX11_feed 106 = .ok (.bipush 20, 2) := by decide +kernel
theorem dX11_feed_108 : decode cX11_feed 108 = .ok (.iadd, 1) := by decide +kernel
theorem dX11_feed_109 : decode cX11_feed 109 = .ok (.putfield 155, 3) := by decide +kernel
theorem dX11_feed_112 : decode cX11_feed 112 = .ok (.aload_n 0, 1) := by decide +kernel
theorem dX11_feed_113 : decode cX11_feed 113 = .ok (.getfield 155, 3) := by decide +kernel
theorem dX11_feed_116 : decode cX11_feed 116 = .ok (.ireturn, 1) := by decide +kernel
theorem dX11_end_0 : decode cX11_end 0 = .ok (.iload_n 1, 1) := by decide +kernel
theorem dX11_end_1 : decode cX11_end 1 = .ok (.iconst 0, 1) := by decide +kernel
theorem dX11_end_2 : decode cX11_end 2 = .ok (.aload_n 0, 1) := by decide +kernel
theorem dX11_end_3 : decode cX11_end 3 = .ok (.getfield 155, 3) := by decide +kernel
theorem dX11_end_6 : decode cX11_end 6 = .ok (.invokestatic 18, 3) := by decide +kernel
theorem dX11_end_9 : decode cX11_end 9 = .ok (.ifCond .ne 5, 3) := by decide +kernel
theorem dX11_end_12 : decode cX11_end 12 = .ok (.iconst (-1), 1) := by decide +kernel
theorem dX11_end_13 : decode cX11_end 13 = .ok (.ireturn, 1) := by decide +kernel
theorem dX11_end_14 : decode cX11_end 14 = .ok (.aload_n 0, 1) := by decide +kernel
theorem dX11_end_15 : decode cX11_end 15 = .ok (.iload_n 1, 1) := by decide +kernel
theorem dX11_end_16 : decode cX11_end 16 = .ok (.putfield 155, 3) := by decide +kernel
theorem dX11_end_19 : decode cX11_end 19 = .ok (.iload_n 1, 1) := by decide +kernel
theorem dX11_end_20 : decode cX11_end 20 = .ok (.ireturn, 1) := by decide +kernel
theorem dX11_isSmall_0 : decode cX11_isSmall 0 = .ok (.iload_n 0, 1) := by decide +kernel
theorem dX11_isSmall_1 : decode cX11_isSmall 1 = .ok (.bipush 97, 2) := by decide +kernel
theorem dX11_isSmall_3 : decode cX11_isSmall 3 = .ok (.if_icmp .lt 13, 3) := by decide +kernel
theorem dX11_isSmall_6 : decode cX11_isSmall 6 = .ok (.iload_n 0, 1) := by decide +kernel
theorem dX11_isSmall_7 : decode cX11_isSmall 7 = .ok (.bipush 122, 2) := by decide +kernel
theorem dX11_isSmall_9 : decode cX11_isSmall 9 = .ok (.if_icmp .gt 7, 3) := by decide +kernel
theorem dX11_isSmall_12 : decode cX11_isSmall 12 = .ok (.iconst 1, 1) := by decide +kernel
theorem dX11_isSmall_13 : decode cX11_isSmall 13 = .ok (.goto 4, 3) := by decide +kernel
theorem dX11_isSmall_16 : decode cX11_isSmall 16 = .ok (.iconst 0, 1) := by decide +kernel
theorem dX11_isSmall_17 : decode cX11_isSmall 17 = .ok (.ireturn, 1) := by decide +kernel
theorem dX11_isDigit_0 : decode cX11_isDigit 0 = .ok (.iload_n 0, 1) := by decide +kernel
theorem dX11_isDigit_1 : decode cX11_isDigit 1 = .ok (.bipush 48, 2) := by decide +kernel
theorem dX11_isDigit_3 : decode cX11_isDigit 3 = .ok (.if_icmp .lt 13, 3) := by decide +kernel
theorem dX11_isDigit_6 : decode cX11_isDigit 6 = .ok (.iload_n 0, 1) := by decide +kernel
theorem dX11_isDigit_7 : decode cX11_isDigit 7 = .ok (.bipush 57, 2) := by decide +kernel
theorem dX11_isDigit_9 : decode cX11_isDigit 9 = .ok (.if_icmp .gt 7, 3) := by decide +kernel
theorem dX11_isDigit_12 : decode cX11_isDigit 12 = .ok (.iconst 1, 1) := by decide +kernel
theorem dX11_isDigit_13 : decode cX11_isDigit 13 = .ok (.goto 4, 3) := by decide +kernel
theorem dX11_isDigit_16 : decode cX11_isDigit 16 = .ok (.iconst 0, 1) := by decide +kernel
theorem dX11_isDigit_17 : decode cX11_isDigit 17 = .ok (.ireturn, 1) := by decide +kernel
theorem dX11_wordOf_0 : decode cX11_wordOf 0 = .ok (.iconst 1, 1) := by decide +kernel
theorem dX11_wordOf_1 : decode cX11_wordOf 1 = .ok (.istore_n 3, 1) := by decide +kernel
theorem dX11_wordOf_2 : decode cX11_wordOf 2 = .ok (.iconst 0, 1) := by decide +kernel
theorem dX11_wordOf_3 : decode cX11_wordOf 3 = .ok (.istore 4, 2) := by decide +kernel
theorem dX11_wordOf_5 : decode cX11_wordOf 5 = .ok (.iload 4, 2) := by decide +kernel
theorem dX11_wordOf_7 : decode cX11_wordOf 7 = .ok (.aload_n 0, 1) := by decide +kernel
theorem dX11_wordOf_8 : decode cX11_wordOf 8 = .ok (.getfield 41, 3) := by decide +kernel
theorem dX11_wordOf_11 : decode cX11_wordOf 11 = .ok (.arraylength, 1) := by decide +kernel
theorem dX11_wordOf_12 : decode cX11_wordOf 12 = .ok (.if_icmp .ge 114, 3) := by decide +kernel
theorem dX11_wordOf_15 : decode cX11_wordOf 15 = .ok (.iconst 0, 1) := by decide +kernel
theorem dX11_wordOf_16 : decode cX11_wordOf 16 = .ok (.istore 5, 2) := by decide +kernel
theorem dX11_wordOf_18 : decode cX11_wordOf 18 = .ok (.aload_n 0, 1) := by decide +kernel
theorem dX11_wordOf_19 : decode cX11_wordOf 19 = .ok (.getfield 41, 3) := by decide +kernel
theorem dX11_wordOf_22 : decode cX11_wordOf 22 = .ok (.iload 4, 2) := by decide +kernel
theorem dX11_wordOf_24 : decode cX11_wordOf 24 = .ok (.iload 5, 2) := by decide +kernel
theorem dX11_wordOf_26 : decode cX11_wordOf 26 = .ok (.iadd, 1) := by decide +kernel
theorem dX11_wordOf_27 : decode cX11_wordOf 27 = .ok (.baload, 1) := by decide +kernel
theorem dX11_wordOf_28 : decode cX11_wordOf 28 = .ok (.bipush 32, 2) := by decide +kernel
theorem dX11_wordOf_30 : decode cX11_wordOf 30 = .ok (.if_icmp .eq 9, 3) := by decide +kernel
theorem dX11_wordOf_33 : decode cX11_wordOf 33 = .ok (.iinc 5 1, 3) := by decide +kernel
theorem dX11_wordOf_36 : decode cX11_wordOf 36 = .ok (.goto (-18), 3) := by decide +kernel
theorem dX11_wordOf_39 : decode cX11_wordOf 39 = .ok (.iload 5, 2) := by decide +kernel
theorem dX11_wordOf_41 : decode cX11_wordOf 41 = .ok (.iload_n 2, 1) := by decide +kernel
theorem dX11_wordOf_42 : decode cX11_wordOf 42 = .ok (.iload_n 1, 1) := by decide +kernel
theorem dX11_wordOf_43 : decode cX11_wordOf 43 = .ok (.isub, 1) := by decide +kernel
theorem dX11_wordOf_44 : decode cX11_wordOf 44 = .ok (.if_icmp .ne 7, 3) := by decide +kernel
theorem dX11_wordOf_47 : decode cX11_wordOf 47 = .ok (.iconst 1, 1) := by decide +kernel
theorem dX11_wordOf_48 : decode cX11_wordOf 48 = .ok (.goto 4, 3) := by decide +kernel
theorem dX11_wordOf_51 : decode cX11_wordOf 51 = .ok (.iconst 0, 1) := by decide +kernel
theorem dX11_wordOf_52 : decode cX11_wordOf 52 = .ok (.istore 6, 2) := by decide +kernel
theorem dX11_wordOf_54 : decode cX11_wordOf 54 = .ok (.iconst 0, 1) := by decide +kernel
theorem dX11_wordOf_55 : decode cX11_wordOf 55 = .ok (.istore 7, 2) := by decide +kernel
theorem dX11_wordOf_57 : decode cX11_wordOf 57 = .ok (.iload 7, 2) := by decide +kernel
theorem dX11_wordOf_59 : decode cX11_wordOf 59 = .ok (.iload 5, 2) := by decide +kernel
theorem dX11_wordOf_61 : decode cX11_wordOf 61 = .ok (.if_icmp .ge 43, 3) := by decide +kernel
theorem dX11_wordOf_64 : decode cX11_wordOf 64 = .ok (.iload 6, 2) := by decide +kernel
theorem dX11_wordOf_66 : decode cX11_wordOf 66 = .ok (.ifCond .eq 38, 3) := by decide +kernel
theorem dX11_wordOf_69 : decode cX11_wordOf 69 = .ok (.aload_n 0, 1) := by decide +kernel
theorem dX11_wordOf_70 : decode cX11_wordOf 70 = .ok (.getfield 41, 3) := by decide +kernel
theorem dX11_wordOf_73 : decode cX11_wordOf 73 = .ok (.iload 4, 2) := by decide +kernel
theorem dX11_wordOf_75 : decode cX11_wordOf 75 = .ok (.iload 7, 2) := by decide +kernel
theorem dX11_wordOf_77 : decode cX11_wordOf 77 = .ok (.iadd, 1) := by decide +kernel
theorem dX11_wordOf_78 : decode cX11_wordOf 78 = .ok (.baload, 1) := by decide +kernel
theorem dX11_wordOf_79 : decode cX11_wordOf 79 = .ok (.aload_n 0, 1) := by decide +kernel
theorem dX11_wordOf_80 : decode cX11_wordOf 80 = .ok (.getfield 45, 3) := by decide +kernel
theorem dX11_wordOf_83 : decode cX11_wordOf 83 = .ok (.iload_n 1, 1) := by decide +kernel
theorem dX11_wordOf_84 : decode cX11_wordOf 84 = .ok (.iload 7, 2) := by decide +kernel
theorem dX11_wordOf_86 : decode cX11_wordOf 86 = .ok (.iadd, 1) := by decide +kernel
theorem dX11_wordOf_87 : decode cX11_wordOf 87 = .ok (.baload, 1) := by decide +kernel
theorem dX11_wordOf_88 : decode cX11_wordOf 88 = .ok (.if_icmp .ne 7, 3) := by decide +kernel
theorem dX11_wordOf_91 : decode cX11_wordOf 91 = .ok (.iconst 1, 1) := by decide +kernel
theorem dX11_wordOf_92 : decode cX11_wordOf 92 = .ok (.goto 4, 3) := by decide +kernel
theorem dX11_wordOf_95 : decode cX11_wordOf 95 = .ok (.iconst 0, 1) := by decide +kernel
theorem dX11_wordOf_96 : decode cX11_wordOf 96 = .ok (.istore 6, 2) := by decide +kernel
theorem dX11_wordOf_98 : decode cX11_wordOf 98 = .ok (.iinc 7 1, 3) := by decide +kernel
theorem dX11_wordOf_101 : decode cX11_wordOf 101 = .ok (.goto (-44), 3) := by decide +kernel
theorem dX11_wordOf_104 : decode cX11_wordOf 104 = .ok (.iload 6, 2) := by decide +kernel
theorem dX11_wordOf_106 : decode cX11_wordOf 106 = .ok (.ifCond .eq 5, 3) := by decide +kernel
theorem dX11_wordOf_109 : decode cX11_wordOf 109 = .ok (.iload_n 3, 1) := by decide +kernel
theorem dX11_wordOf_110 : decode cX11_wordOf 110 = .ok (.ireturn, 1) := by decide +kernel
theorem dX11_wordOf_111 : decode cX11_wordOf 111 = .ok (.iload 4, 2) := by decide +kernel
theorem dX11_wordOf_113 : decode cX11_wordOf 113 = .ok (.iload 5, 2) := by decide +kernel
theorem dX11_wordOf_115 : decode cX11_wordOf 115 = .ok (.iconst 1, 1) := by decide +kernel
theorem dX11_wordOf_116 : decode cX11_wordOf 116 = .ok (.iadd, 1) := by decide +kernel
theorem dX11_wordOf_117 : decode cX11_wordOf 117 = .ok (.iadd, 1) := by decide +kernel
theorem dX11_wordOf_118 : decode cX11_wordOf 118 = .ok (.istore 4, 2) := by decide +kernel
theorem dX11_wordOf_120 : decode cX11_wordOf 120 = .ok (.iinc 3 1, 3) := by decide +kernel
theorem dX11_wordOf_123 : decode cX11_wordOf 123 = .ok (.goto (-118), 3) := by decide +kernel
theorem dX11_wordOf_126 : decode cX11_wordOf 126 = .ok (.iconst 0, 1) := by decide +kernel
theorem dX11_wordOf_127 : decode cX11_wordOf 127 = .ok (.ireturn, 1) := by decide +kernel
theorem dX11_splits_0 : decode cX11_splits 0 = .ok (.aload_n 0, 1) := by decide +kernel
theorem dX11_splits_1 : decode cX11_splits 1 = .ok (.iconst 0, 1) := by decide +kernel
theorem dX11_splits_2 : decode cX11_splits 2 = .ok (.putfield 161, 3) := by decide +kernel
theorem dX11_splits_5 : decode cX11_splits 5 = .ok (.iconst 0, 1) := by decide +kernel
theorem dX11_splits_6 : decode cX11_splits 6 = .ok (.istore_n 2, 1) := by decide +kernel
theorem dX11_splits_7 : decode cX11_splits 7 = .ok (.iload_n 2, 1) := by decide +kernel
theorem dX11_splits_8 : decode cX11_splits 8 = .ok (.iload_n 1, 1) := by decide +kernel
theorem dX11_splits_9 : decode cX11_splits 9 = .ok (.if_icmp .ge 254, 3) := by decide +kernel
theorem dX11_splits_12 : decode cX11_splits 12 = .ok (.aload_n 0, 1) := by decide +kernel
theorem dX11_splits_13 : decode cX11_splits 13 = .ok (.getfield 45, 3) := by decide +kernel
theorem dX11_splits_16 : decode cX11_splits 16 = .ok (.iload_n 2, 1) := by decide +kernel
theorem dX11_splits_17 : decode cX11_splits 17 = .ok (.baload, 1) := by decide +kernel
theorem dX11_splits_18 : decode cX11_splits 18 = .ok (.istore_n 3, 1) := by decide +kernel
theorem dX11_splits_19 : decode cX11_splits 19 = .ok (.iload_n 3, 1) := by decide +kernel
theorem dX11_splits_20 : decode cX11_splits 20 = .ok (.bipush 32, 2) := by decide +kernel
theorem dX11_splits_22 : decode cX11_splits 22 = .ok (.if_icmp .ne 9, 3) := by decide +kernel
theorem dX11_splits_25 : decode cX11_splits 25 = .ok (.iinc 2 1, 3) := by decide +kernel
theorem dX11_splits_28 : decode cX11_splits 28 = .ok (.goto (-21), 3) := by decide +kernel
theorem dX11_splits_31 : decode cX11_splits 31 = .ok (.iload_n 2, 1) := by decide +kernel
theorem dX11_splits_32 : decode cX11_splits 32 = .ok (.iconst 1, 1) := by decide +kernel
theorem dX11_splits_33 : decode cX11_splits 33 = .ok (.iadd, 1) := by decide +kernel
theorem dX11_splits_34 : decode cX11_splits 34 = .ok (.istore 4, 2) := by decide +kernel
theorem dX11_splits_36 : decode cX11_splits 36 = .ok (.iload_n 3, 1) := by decide +kernel
theorem dX11_splits_37 : decode cX11_splits 37 = .ok (.invokestatic 164, 3) := by decide +kernel
theorem dX11_splits_40 : decode cX11_splits 40 = .ok (.ifCond .eq 28, 3) := by decide +kernel
theorem dX11_splits_43 : decode cX11_splits 43 = .ok (.iload 4, 2) := by decide +kernel
theorem dX11_splits_45 : decode cX11_splits 45 = .ok (.iload_n 1, 1) := by decide +kernel
theorem dX11_splits_46 : decode cX11_splits 46 = .ok (.if_icmp .ge 22, 3) := by decide +kernel
theorem dX11_splits_49 : decode cX11_splits 49 = .ok (.aload_n 0, 1) := by decide +kernel
theorem dX11_splits_50 : decode cX11_splits 50 = .ok (.getfield 45, 3) := by decide +kernel
theorem dX11_splits_53 : decode cX11_splits 53 = .ok (.iload 4, 2) := by decide +kernel
theorem dX11_splits_55 : decode cX11_splits 55 = .ok (.baload, 1) := by decide +kernel
theorem dX11_splits_56 : decode cX11_splits 56 = .ok (.invokestatic 164, 3) := by decide +kernel
theorem dX11_splits_59 : decode cX11_splits 59 = .ok (.ifCond .eq 9, 3) := by decide +kernel
theorem dX11_splits_62 : decode cX11_splits 62 = .ok (.iinc 4 1, 3) := by decide +kernel
theorem dX11_splits_65 : decode cX11_splits 65 = .ok (.goto (-22), 3) := by decide +kernel
theorem dX11_splits_68 : decode cX11_splits 68 = .ok (.iload_n 3, 1) := by decide +kernel
theorem dX11_splits_69 : decode cX11_splits 69 = .ok (.invokestatic 167, 3) := by decide +kernel
theorem dX11_splits_72 : decode cX11_splits 72 = .ok (.ifCond .eq 28, 3) := by decide +kernel
theorem dX11_splits_75 : decode cX11_splits 75 = .ok (.iload 4, 2) := by decide +kernel
theorem dX11_splits_77 : decode cX11_splits 77 = .ok (.iload_n 1, 1) := by decide +kernel
theorem dX11_splits_78 : decode cX11_splits 78 = .ok (.if_icmp .ge 22, 3) := by decide +kernel
theorem dX11_splits_81 : decode cX11_splits 81 = .ok (.aload_n 0, 1) := by decide +kernel
theorem dX11_splits_82 : decode cX11_splits 82 = .ok (.getfield 45, 3) := by decide +kernel
theorem dX11_splits_85 : decode cX11_splits 85 = .ok (.iload 4, 2) := by decide +kernel
theorem dX11_splits_87 : decode cX11_splits 87 = .ok (.baload, 1) := by decide +kernel
theorem dX11_splits_88 : decode cX11_splits 88 = .ok (.invokestatic 167, 3) := by decide +kernel
theorem dX11_splits_91 : decode cX11_splits 91 = .ok (.ifCond .eq 9, 3) := by decide +kernel
theorem dX11_splits_94 : decode cX11_splits 94 = .ok (.iinc 4 1, 3) := by decide +kernel
theorem dX11_splits_97 : decode cX11_splits 97 = .ok (.goto (-22), 3) := by decide +kernel
theorem dX11_splits_100 : decode cX11_splits 100 = .ok (.aload_n 0, 1) := by decide +kernel
theorem dX11_splits_101 : decode cX11_splits 101 = .ok (.getfield 60, 3) := by decide +kernel
theorem dX11_splits_104 : decode cX11_splits 104 = .ok (.aload_n 0, 1) := by decide +kernel
theorem dX11_splits_105 : decode cX11_splits 105 = .ok (.getfield 161, 3) := by decide +kernel
theorem dX11_splits_108 : decode cX11_splits 108 = .ok (.iload_n 2, 1) := by decide +kernel
theorem dX11_splits_109 : decode cX11_splits 109 = .ok (.iastore, 1) := by decide +kernel
theorem dX11_splits_110 : decode cX11_splits 110 = .ok (.aload_n 0, 1) := by decide +kernel
theorem dX11_splits_111 : decode cX11_splits 111 = .ok (.getfield 57, 3) := by decide +kernel
theorem dX11_splits_114 : decode cX11_splits 114 = .ok (.aload_n 0, 1) := by decide +kernel
theorem dX11_splits_115 : decode cX11_splits 115 = .ok (.getfield 161, 3) := by decide +kernel
theorem dX11_splits_118 : decode cX11_splits 118 = .ok (.iconst 0, 1) := by decide +kernel
theorem dX11_splits_119 : decode cX11_splits 119 = .ok (.iastore, 1) := by decide +kernel
theorem dX11_splits_120 : decode cX11_splits 120 = .ok (.aload_n 0, 1) := by decide +kernel
theorem dX11_splits_121 : decode cX11_splits 121 = .ok (.getfield 54, 3) := by decide +kernel
theorem dX11_splits_124 : decode cX11_splits 124 = .ok (.aload_n 0, 1) := by decide +kernel
theorem dX11_splits_125 : decode cX11_splits 125 = .ok (.getfield 161, 3) := by decide +kernel
theorem dX11_splits_128 : decode cX11_splits 128 = .ok (.iload_n 3, 1) := by decide +kernel
theorem dX11_splits_129 : decode cX11_splits 129 = .ok (.invokestatic 164, 3) := by decide +kernel
theorem dX11_splits_132 : decode cX11_splits 132 = .ok (.ifCond .eq 13, 3) := by decide +kernel
theorem dX11_splits_135 : decode cX11_splits 135 = .ok (.aload_n 0, 1) := by decide +kernel
theorem dX11_splits_136 : decode cX11_splits 136 = .ok (.iload_n 2, 1) := by decide +kernel
theorem dX11_splits_137 : decode cX11_splits 137 = .ok (.iload 4, 2) := by decide +kernel
theorem dX11_splits_139 : decode cX11_splits 139 = .ok (.invokevirtual 170, 3) := by decide +kernel
theorem dX11_splits_142 : decode cX11_splits 142 = .ok (.goto 23, 3) := by decide +kernel
theorem dX11_splits_145 : decode cX11_splits 145 = .ok (.iload_n 3, 1) := by decide +kernel
theorem dX11_splits_146 : decode cX11_splits 146 = .ok (.invokestatic 167, 3) := by decide +kernel
theorem dX11_splits_149 : decode cX11_splits 149 = .ok (.ifCond .eq 8, 3) := by decide +kernel
theorem dX11_splits_152 : decode cX11_splits 152 = .ok (.bipush 50, 2) := by decide +kernel
theorem dX11_splits_154 : decode cX11_splits 154 = .ok (.goto 11, 3) := by decide +kernel
theorem dX11_splits_157 : decode cX11_splits 157 = .ok (.bipush 100, 2) := by decide +kernel
theorem dX11_splits_159 : decode cX11_splits 159 = .ok (.iload_n 3, 1) := by decide +kernel
theorem dX11_splits_160 : decode cX11_splits 160 = .ok (.sipush 255, 3) := by decide +kernel
theorem dX11_splits_163 : decode cX11_splits 163 = .ok (.iand, 1) := by decide +kernel
theorem dX11_splits_164 : decode cX11_splits 164 = .ok (.iadd, 1) := by decide +kernel
theorem dX11_splits_165 : decode cX11_splits 165 = .ok (.iastore, 1) := by decide +kernel
theorem dX11_splits_166 : decode cX11_splits 166 = .ok (.iload_n 2, 1) := by decide +kernel
theorem dX11_splits_167 : decode cX11_splits 167 = .ok (.istore 5, 2) := by decide +kernel
theorem dX11_splits_169 : decode cX11_splits 169 = .ok (.iload 5, 2) := by decide +kernel
theorem dX11_splits_171 : decode cX11_splits 171 = .ok (.iload 4, 2) := by decide +kernel
theorem dX11_splits_173 : decode cX11_splits 173 = .ok (.if_icmp .ge 74, 3) := by decide +kernel
theorem dX11_splits_176 : decode cX11_splits 176 = .ok (.iload_n 3, 1) := by decide +kernel
theorem dX11_splits_177 : decode cX11_splits 177 = .ok (.invokestatic 167, 3) := by decide +kernel
theorem dX11_splits_180 : decode cX11_splits 180 = .ok (.ifCond .eq 67, 3) := by decide +kernel
theorem dX11_splits_183 : decode cX11_splits 183 = .ok (.aload_n 0, 1) := by decide +kernel
theorem dX11_splits_184 : decode cX11_splits 184 = .ok (.getfield 57, 3) := by decide +kernel
theorem dX11_splits_187 : decode cX11_splits 187 = .ok (.aload_n 0, 1) := by decide +kernel
theorem dX11_splits_188 : decode cX11_splits 188 = .ok (.getfield 161, 3) := by decide +kernel
theorem dX11_splits_191 : decode cX11_splits 191 = .ok (.aload_n 0, 1) := by decide +kernel
theorem dX11_splits_192 : decode cX11_splits 192 = .ok (.getfield 57, 3) := by decide +kernel
theorem dX11_splits_195 : decode cX11_splits 195 = .ok (.aload_n 0, 1) := by decide +kernel
theorem dX11_splits_196 : decode cX11_splits 196 = .ok (.getfield 161, 3) := by decide +kernel
theorem dX11_splits_199 : decode cX11_splits 199 = .ok (.iaload, 1) := by decide +kernel
theorem dX11_splits_200 : decode cX11_splits 200 = .ok (.ldc 174, 2) := by decide +kernel
theorem dX11_splits_202 : decode cX11_splits 202 = .ok (.if_icmp .le 15, 3) := by decide +kernel
theorem dX11_splits_205 : decode cX11_splits 205 = .ok (.aload_n 0, 1) := by decide +kernel
theorem dX11_splits_206 : decode cX11_splits 206 = .ok (.getfield 57, 3) := by decide +kernel
theorem dX11_splits_209 : decode cX11_splits 209 = .ok (.aload_n 0, 1) := by decide +kernel
theorem dX11_splits_210 : decode cX11_splits 210 = .ok (.getfield 161, 3) := by decide +kernel
theorem dX11_splits_213 : decode cX11_splits 213 = .ok (.iaload, 1) := by decide +kernel
theorem dX11_splits_214 : decode cX11_splits 214 = .ok (.goto 26, 3) := by decide +kernel
theorem dX11_splits_217 : decode cX11_splits 217 = .ok (.bipush 10, 2) := by decide +kernel
theorem dX11_splits_219 : decode cX11_splits 219 = .ok (.aload_n 0, 1) := by decide +kernel
theorem dX11_splits_220 : decode cX11_splits 220 = .ok (.getfield 57, 3) := by decide +kernel
theorem dX11_splits_223 : decode cX11_splits 223 = .ok (.aload_n 0, 1) := by decide +kernel
theorem dX11_splits_224 : decode cX11_splits 224 = .ok (.getfield 161, 3) := by decide +kernel
theorem dX11_splits_227 : decode cX11_splits 227 = .ok (.iaload, 1) := by decide +kernel
theorem dX11_splits_228 : decode cX11_splits 228 = .ok (.imul, 1) := by decide +kernel
theorem dX11_splits_229 : decode cX11_splits 229 = .ok (.aload_n 0, 1) := by decide +kernel
theorem dX11_splits_230 : decode cX11_splits 230 = .ok (.getfield 45, 3) := by decide +kernel
theorem dX11_splits_233 : decode cX11_splits 233 = .ok (.iload 5, 2) := by decide +kernel
theorem dX11_splits_235 : decode cX11_splits 235 = .ok (.baload, 1) := by decide +kernel
theorem dX11_splits_236 : decode cX11_splits 236 = .ok (.iadd, 1) := by decide +kernel
theorem dX11_splits_237 : decode cX11_splits 237 = .ok (.bipush 48, 2) := by decide +kernel
theorem dX11_splits_239 : decode cX11_splits 239 = .ok (.isub, 1) := by decide +kernel
theorem dX11_splits_240 : decode cX11_splits 240 = .ok (.iastore, 1) := by decide +kernel
theorem dX11_splits_241 : decode cX11_splits 241 = .ok (.iinc 5 1, 3) := by decide +kernel
theorem dX11_splits_244 : decode cX11_splits 244 = .ok (.goto (-75), 3) := by decide +kernel
theorem dX11_splits_247 : decode cX11_splits 247 = .ok (.aload_n 0, 1) := by decide +kernel
theorem dX11_splits_248 : decode cX11_splits 248 = .ok (.dup, 1) := by decide +kernel
theorem dX11_splits_249 : decode cX11_splits 249 = .ok (.getfield 161, 3) := by decide +kernel
theorem dX11_splits_252 : decode cX11_splits 252 = .ok (.iconst 1, 1) := by decide +kernel
theorem dX11_splits_253 : decode cX11_splits 253 = .ok (.iadd, 1) := by decide +kernel
theorem dX11_splits_254 : decode cX11_splits 254 = .ok (.putfield 161, 3) := by decide +kernel
theorem dX11_splits_257 : decode cX11_splits 257 = .ok (.iload 4, 2) := by decide +kernel
theorem dX11_splits_259 : decode cX11_splits 259 = .ok (.istore_n 2, 1) := by decide +kernel
theorem dX11_splits_260 : decode cX11_splits 260 = .ok (.goto (-253), 3) := by decide +kernel
theorem dX11_splits_263 : decode cX11_splits 263 = .ok (.aload_n 0, 1) := by decide +kernel
theorem dX11_splits_264 : decode cX11_splits 264 = .ok (.getfield 60, 3) := by decide +kernel
theorem dX11_splits_267 : decode cX11_splits 267 = .ok (.aload_n 0, 1) := by decide +kernel
theorem dX11_splits_268 : decode cX11_splits 268 = .ok (.getfield 161, 3) := by decide +kernel
theorem dX11_splits_271 : decode cX11_splits 271 = .ok (.iload_n 1, 1) := by decide +kernel
theorem dX11_splits_272 : decode cX11_splits 272 = .ok (.iastore, 1) := by decide +kernel
theorem dX11_splits_273 : decode cX11_splits 273 = .ok (.aload_n 0, 1) := by decide +kernel
theorem dX11_splits_274 : decode cX11_splits 274 = .ok (.getfield 54, 3) := by decide +kernel
theorem dX11_splits_277 : decode cX11_splits 277 = .ok (.aload_n 0, 1) := by decide +kernel
theorem dX11_splits_278 : decode cX11_splits 278 = .ok (.getfield 161, 3) := by decide +kernel
theorem dX11_splits_281 : decode cX11_splits 281 = .ok (.iconst 0, 1) := by decide +kernel
theorem dX11_splits_282 : decode cX11_splits 282 = .ok (.iastore, 1) := by decide +kernel
theorem dX11_splits_283 : decode cX11_splits 283 = .ok (.aload_n 0, 1) := by decide +kernel
theorem dX11_splits_284 : decode cX11_splits 284 = .ok (.getfield 57, 3) := by decide +kernel
theorem dX11_splits_287 : decode cX11_splits 287 = .ok (.aload_n 0, 1) := by decide +kernel
theorem dX11_splits_288 : decode cX11_splits 288 = .ok (.getfield 161, 3) := by decide +kernel
theorem dX11_splits_291 : decode cX11_splits 291 = .ok (.iconst 0, 1) := by decide +kernel
theorem dX11_splits_292 : decode cX11_splits 292 = .ok (.iastore, 1) := by decide +kernel
theorem dX11_splits_293 : decode cX11_splits 293 = .ok (.return_, 1) := by decide +kernel
theorem dX11_fine_0 : decode cX11_fine 0 = .ok (.aload_n 0, 1) := by decide +kernel
theorem dX11_fine_1 : decode cX11_fine 1 = .ok (.getfield 175, 3) := by decide +kernel
theorem dX11_fine_4 : decode cX11_fine 4 = .ok (.iconst (-1), 1) := by decide +kernel
theorem dX11_fine_5 : decode cX11_fine 5 = .ok (.if_icmp .ne 7, 3) := by decide +kernel
theorem dX11_fine_8 : decode cX11_fine 8 = .ok (.iconst 1, 1) := by decide +kernel
theorem dX11_fine_9 : decode cX11_fine 9 = .ok (.goto 4, 3) := by decide +kernel
theorem dX11_fine_12 : decode cX11_fine 12 = .ok (.iconst 0, 1) := by decide +kernel
theorem dX11_fine_13 : decode cX11_fine 13 = .ok (.ireturn, 1) := by decide +kernel
theorem dX11_faults_0 : decode cX11_faults 0 = .ok (.aload_n 0, 1) := by decide +kernel
theorem dX11_faults_1 : decode cX11_faults 1 = .ok (.invokevirtual 178, 3) := by decide +kernel
theorem dX11_faults_4 : decode cX11_faults 4 = .ok (.ifCond .eq 16, 3) := by decide +kernel
theorem dX11_faults_7 : decode cX11_faults 7 = .ok (.aload_n 0, 1) := by decide +kernel
theorem dX11_faults_8 : decode cX11_faults 8 = .ok (.aload_n 0, 1) := by decide +kernel
theorem dX11_faults_9 : decode cX11_faults 9 = .ok (.getfield 60, 3) := by decide +kernel
theorem dX11_faults_12 : decode cX11_faults 12 = .ok (.aload_n 0, 1) := by decide +kernel
theorem dX11_faults_13 : decode cX11_faults 13 = .ok (.getfield 182, 3) := by decide +kernel
theorem dX11_faults_16 : decode cX11_faults 16 = .ok (.iaload, 1) := by decide +kernel
theorem dX11_faults_17 : decode cX11_faults 17 = .ok (.putfield 175, 3) := by decide +kernel
theorem dX11_faults_20 : decode cX11_faults 20 = .ok (.return_, 1) := by decide +kernel
theorem dX11_takes0_0 : decode cX11_takes0 0 = .ok (.aload_n 0, 1) := by decide +kernel
theorem dX11_takes0_1 : decode cX11_takes0 1 = .ok (.invokevirtual 178, 3) := by decide +kernel
theorem dX11_takes0_4 : decode cX11_takes0 4 = .ok (.ifCond .eq 20, 3) := by decide +kernel
theorem dX11_takes0_7 : decode cX11_takes0 7 = .ok (.aload_n 0, 1) := by decide +kernel
theorem dX11_takes0_8 : decode cX11_takes0 8 = .ok (.getfield 54, 3) := by decide +kernel
theorem dX11_takes0_11 : decode cX11_takes0 11 = .ok (.aload_n 0, 1) := by decide +kernel
theorem dX11_takes0_12 : decode cX11_takes0 12 = .ok (.getfield 182, 3) := by decide +kernel
theorem dX11_takes0_15 : decode cX11_takes0 15 = .ok (.iaload, 1) := by decide +kernel
theorem dX11_takes0_16 : decode cX11_takes0 16 = .ok (.iload_n 1, 1) := by decide +kernel
theorem dX11_takes0_17 : decode cX11_takes0 17 = .ok (.if_icmp .ne 7, 3) := by decide +kernel
theorem dX11_takes0_20 : decode cX11_takes0 20 = .ok (.iconst 1, 1) := by decide +kernel
theorem dX11_takes0_21 : decode cX11_takes0 21 = .ok (.goto 4, 3) := by decide +kernel
theorem dX11_takes0_24 : decode cX11_takes0 24 = .ok (.iconst 0, 1) := by decide +kernel
theorem dX11_takes0_25 : decode cX11_takes0 25 = .ok (.istore_n 2, 1) := by decide +kernel
theorem dX11_takes0_26 : decode cX11_takes0 26 = .ok (.iload_n 2, 1) := by decide +kernel
theorem dX11_takes0_27 : decode cX11_takes0 27 = .ok (.ifCond .eq 13, 3) := by decide +kernel
theorem dX11_takes0_30 : decode cX11_takes0 30 = .ok (.aload_n 0, 1) := by decide +kernel
theorem dX11_takes0_31 : decode cX11_takes0 31 = .ok (.dup, 1) := by decide +kernel
theorem dX11_takes0_32 : decode cX11_takes0 32 = .ok (.getfield 182, 3) := by decide +kernel
theorem dX11_takes0_35 : decode cX11_takes0 35 = .ok (.iconst 1, 1) := by decide +kernel
theorem dX11_takes0_36 : decode cX11_takes0 36 = .ok (.iadd, 1) := by decide +kernel
theorem dX11_takes0_37 : decode cX11_takes0 37 = .ok (.putfield 182, 3) := by decide +kernel
theorem dX11_takes0_40 : decode cX11_takes0 40 = .ok (.iload_n 2, 1) := by decide +kernel
theorem dX11_takes0_41 : decode cX11_takes0 41 = .ok (.ireturn, 1) := by decide +kernel
theorem dX11_must_0 : decode cX11_must 0 = .ok (.aload_n 0, 1) := by decide +kernel
theorem dX11_must_1 : decode cX11_must 1 = .ok (.iload_n 1, 1) := by decide +kernel
theorem dX11_must_2 : decode cX11_must 2 = .ok (.invokevirtual 185, 3) := by decide +kernel
theorem dX11_must_5 : decode cX11_must 5 = .ok (.ifCond .ne 7, 3) := by decide +kernel
theorem dX11_must_8 : decode cX11_must 8 = .ok (.aload_n 0, 1) := by decide +kernel
theorem dX11_must_9 : decode cX11_must 9 = .ok (.invokevirtual 188, 3) := by decide +kernel
theorem dX11_must_12 : decode cX11_must 12 = .ok (.return_, 1) := by decide +kernel
theorem dX11_leaf_0 : decode cX11_leaf 0 = .ok (.aload_n 0, 1) := by decide +kernel
theorem dX11_leaf_1 : decode cX11_leaf 1 = .ok (.getfield 191, 3) := by decide +kernel
theorem dX11_leaf_4 : decode cX11_leaf 4 = .ok (.bipush 50, 2) := by decide +kernel
theorem dX11_leaf_6 : decode cX11_leaf 6 = .ok (.if_icmp .ne 7, 3) := by decide +kernel
theorem dX11_leaf_9 : decode cX11_leaf 9 = .ok (.aload_n 0, 1) := by decide +kernel
theorem dX11_leaf_10 : decode cX11_leaf 10 = .ok (.invokevirtual 188, 3) := by decide +kernel
theorem dX11_leaf_13 : decode cX11_leaf 13 = .ok (.aload_n 0, 1) := by decide +kernel
theorem dX11_leaf_14 : decode cX11_leaf 14 = .ok (.dup, 1) := by decide +kernel
theorem dX11_leaf_15 : decode cX11_leaf 15 = .ok (.getfield 191, 3) := by decide +kernel
theorem dX11_leaf_18 : decode cX11_leaf 18 = .ok (.iconst 1, 1) := by decide +kernel
theorem dX11_leaf_19 : decode cX11_leaf 19 = .ok (.iadd, 1) := by decide +kernel
theorem dX11_leaf_20 : decode cX11_leaf 20 = .ok (.putfield 191, 3) := by decide +kernel
theorem dX11_leaf_23 : decode cX11_leaf 23 = .ok (.aload_n 0, 1) := by decide +kernel
theorem dX11_leaf_24 : decode cX11_leaf 24 = .ok (.invokevirtual 178, 3) := by decide +kernel
theorem dX11_leaf_27 : decode cX11_leaf 27 = .ok (.ifCond .eq 13, 3) := by decide +kernel
theorem dX11_leaf_30 : decode cX11_leaf 30 = .ok (.aload_n 0, 1) := by decide +kernel
theorem dX11_leaf_31 : decode cX11_leaf 31 = .ok (.dup, 1) := by decide +kernel
theorem dX11_leaf_32 : decode cX11_leaf 32 = .ok (.getfield 182, 3) := by decide +kernel
theorem dX11_leaf_35 : decode cX11_leaf 35 = .ok (.iconst 1, 1) := by decide +kernel
theorem dX11_leaf_36 : decode cX11_leaf 36 = .ok (.iadd, 1) := by decide +kernel
theorem dX11_leaf_37 : decode cX11_leaf 37 = .ok (.putfield 182, 3) := by decide +kernel
theorem dX11_leaf_40 : decode cX11_leaf 40 = .ok (.return_, 1) := by decide +kernel
theorem dX11_sign_0 : decode cX11_sign 0 = .ok (.bipush 100, 2) := by decide +kernel
theorem dX11_sign_2 : decode cX11_sign 2 = .ok (.iload_n 0, 1) := by decide +kernel
theorem dX11_sign_3 : decode cX11_sign 3 = .ok (.iadd, 1) := by decide +kernel
theorem dX11_sign_4 : decode cX11_sign 4 = .ok (.ireturn, 1) := by decide +kernel
theorem dX11_mustNumber_0 : decode cX11_mustNumber 0 = .ok (.aload_n 0, 1) := by decide +kernel
theorem dX11_mustNumber_1 : decode cX11_mustNumber 1 = .ok (.invokevirtual 178, 3) := by decide +kernel
theorem dX11_mustNumber_4 : decode cX11_mustNumber 4 = .ok (.ifCond .eq 38, 3) := by decide +kernel
theorem dX11_mustNumber_7 : decode cX11_mustNumber 7 = .ok (.aload_n 0, 1) := by decide +kernel
theorem dX11_mustNumber_8 : decode cX11_mustNumber 8 = .ok (.getfield 54, 3) := by decide +kernel
theorem dX11_mustNumber_11 : decode cX11_mustNumber 11 = .ok (.aload_n 0, 1) := by decide +kernel
theorem dX11_mustNumber_12 : decode cX11_mustNumber 12 = .ok (.getfield 182, 3) := by decide +kernel
theorem dX11_mustNumber_15 : decode cX11_mustNumber 15 = .ok (.iaload, 1) := by decide +kernel
theorem dX11_mustNumber_16 : decode cX11_mustNumber 16 = .ok (.bipush 50, 2) := by decide +kernel
theorem dX11_mustNumber_18 : decode cX11_mustNumber 18 = .ok (.if_icmp .ne 20, 3) := by decide +kernel
theorem dX11_mustNumber_21 : decode cX11_mustNumber 21 = .ok (.aload_n 0, 1) := by decide +kernel
theorem dX11_mustNumber_22 : decode cX11_mustNumber 22 = .ok (.getfield 57, 3) := by decide +kernel
theorem dX11_mustNumber_25 : decode cX11_mustNumber 25 = .ok (.aload_n 0, 1) := by decide +kernel
theorem dX11_mustNumber_26 : decode cX11_mustNumber 26 = .ok (.getfield 182, 3) := by decide +kernel
theorem dX11_mustNumber_29 : decode cX11_mustNumber 29 = .ok (.iaload, 1) := by decide +kernel
theorem dX11_mustNumber_30 : decode cX11_mustNumber 30 = .ok (.iload_n 1, 1) := by decide +kernel
theorem dX11_mustNumber_31 : decode cX11_mustNumber 31 = .ok (.iload_n 2, 1) := by decide +kernel
theorem dX11_mustNumber_32 : decode cX11_mustNumber 32 = .ok (.invokestatic 18, 3) := by decide +kernel
theorem dX11_mustNumber_35 : decode cX11_mustNumber 35 = .ok (.ifCond .ne 7, 3) := by decide +kernel
theorem dX11_mustNumber_38 : decode cX11_mustNumber 38 = .ok (.aload_n 0, 1) := by decide +kernel
theorem dX11_mustNumber_39 : decode cX11_mustNumber 39 = .ok (.invokevirtual 188, 3) := by decide +kernel
theorem dX11_mustNumber_42 : decode cX11_mustNumber 42 = .ok (.aload_n 0, 1) := by decide +kernel
theorem dX11_mustNumber_43 : decode cX11_mustNumber 43 = .ok (.invokevirtual 178, 3) := by decide +kernel
theorem dX11_mustNumber_46 : decode cX11_mustNumber 46 = .ok (.ifCond .eq 13, 3) := by decide +kernel
theorem dX11_mustNumber_49 : decode cX11_mustNumber 49 = .ok (.aload_n 0, 1) := by decide +kernel
theorem dX11_mustNumber_50 : decode cX11_mustNumber 50 = .ok (.dup, 1) := by decide +kernel
theorem dX11_mustNumber_51 : decode cX11_mustNumber 51 = .ok (.getfield 182, 3) := by decide +kernel
theorem dX11_mustNumber_54 : decode cX11_mustNumber 54 = .ok (.iconst 1, 1) := by decide +kernel
theorem dX11_mustNumber_55 : decode cX11_mustNumber 55 = .ok (.iadd, 1) := by decide +kernel
theorem dX11_mustNumber_56 : decode cX11_mustNumber 56 = .ok (.putfield 182, 3) := by decide +kernel
theorem dX11_mustNumber_59 : decode cX11_mustNumber 59 = .ok (.return_, 1) := by decide +kernel
theorem dX11_readClause_0 : decode cX11_readClause 0 = .ok (.aload_n 0, 1) := by decide +kernel
theorem dX11_readClause_1 : decode cX11_readClause 1 = .ok (.iconst 1, 1) := by decide +kernel
theorem dX11_readClause_2 : decode cX11_readClause 2 = .ok (.invokevirtual 185, 3) := by decide +kernel
theorem dX11_readClause_5 : decode cX11_readClause 5 = .ok (.ifCond .eq 11, 3) := by decide +kernel
theorem dX11_readClause_8 : decode cX11_readClause 8 = .ok (.aload_n 0, 1) := by decide +kernel
theorem dX11_readClause_9 : decode cX11_readClause 9 = .ok (.iconst 0, 1) := by decide +kernel
theorem dX11_readClause_10 : decode cX11_readClause 10 = .ok (.invokevirtual 194, 3) := by decide +kernel
theorem dX11_readClause_13 : decode cX11_readClause 13 = .ok (.goto 16, 3) := by decide +kernel
theorem dX11_readClause_16 : decode cX11_readClause 16 = .ok (.aload_n 0, 1) := by decide +kernel
theorem dX11_readClause_17 : decode cX11_readClause 17 = .ok (.iconst 2, 1) := by decide +kernel
theorem dX11_readClause_18 : decode cX11_readClause 18 = .ok (.invokevirtual 185, 3) := by decide +kernel
theorem dX11_readClause_21 : decode cX11_readClause 21 = .ok (.ifCond .ne 8, 3) := by decide +kernel
theorem dX11_readClause_24 : decode cX11_readClause 24 = .ok (.aload_n 0, 1) := by decide +kernel
theorem dX11_readClause_25 : decode cX11_readClause 25 = .ok (.iconst 3, 1) := by decide +kernel
theorem dX11_readClause_26 : decode cX11_readClause 26 = .ok (.invokevirtual 198, 3) := by decide +kernel
theorem dX11_readClause_29 : decode cX11_readClause 29 = .ok (.aload_n 0, 1) := by decide +kernel
theorem dX11_readClause_30 : decode cX11_readClause 30 = .ok (.iconst 4, 1) := by decide +kernel
theorem dX11_readClause_31 : decode cX11_readClause 31 = .ok (.invokevirtual 185, 3) := by decide +kernel
theorem dX11_readClause_34 : decode cX11_readClause 34 = .ok (.ifCond .eq 8, 3) := by decide +kernel
theorem dX11_readClause_37 : decode cX11_readClause 37 = .ok (.aload_n 0, 1) := by decide +kernel
theorem dX11_readClause_38 : decode cX11_readClause 38 = .ok (.iconst 0, 1) := by decide +kernel
theorem dX11_readClause_39 : decode cX11_readClause 39 = .ok (.invokevirtual 201, 3) := by decide +kernel
theorem dX11_readClause_42 : decode cX11_readClause 42 = .ok (.return_, 1) := by decide +kernel
