/-! decode rows -/
theorem dX0_clear_0 : decode cX0_clear 0 = .ok (.aload_n 0, 1) := by decide +kernel
theorem dX0_clear_1 : decode cX0_clear 1 = .ok (.iconst 0, 1) := by decide +kernel
theorem dX0_clear_2 : decode cX0_clear 2 = .ok (.putfield 21, 3) := by decide +kernel
theorem dX0_clear_5 : decode cX0_clear 5 = .ok (.return_, 1) := by decide +kernel
theorem dX0_make_0 : decode cX0_make 0 = .ok (.iload_n 2, 1) := by decide +kernel
theorem dX0_make_1 : decode cX0_make 1 = .ok (.tableswitch 52 0 2 #[27, 36, 45], 27) := by decide +kernel
theorem dX0_make_28 : decode cX0_make 28 = .ok (.aload_n 0, 1) := by decide +kernel
theorem dX0_make_29 : decode cX0_make 29 = .ok (.aload_n 1, 1) := by decide +kernel
theorem dX0_make_30 : decode cX0_make 30 = .ok (.iload_n 3, 1) := by decide +kernel
theorem dX0_make_31 : decode cX0_make 31 = .ok (.iload 4, 2) := by decide +kernel
theorem dX0_make_33 : decode cX0_make 33 = .ok (.invokevirtual 25, 3) := by decide +kernel
theorem dX0_make_36 : decode cX0_make 36 = .ok (.ireturn, 1) := by decide +kernel
theorem dX0_make_37 : decode cX0_make 37 = .ok (.aload_n 0, 1) := by decide +kernel
theorem dX0_make_38 : decode cX0_make 38 = .ok (.aload_n 1, 1) := by decide +kernel
theorem dX0_make_39 : decode cX0_make 39 = .ok (.iload_n 3, 1) := by decide +kernel
theorem dX0_make_40 : decode cX0_make 40 = .ok (.iload 4, 2) := by decide +kernel
theorem dX0_make_42 : decode cX0_make 42 = .ok (.invokevirtual 29, 3) := by decide +kernel
theorem dX0_make_45 : decode cX0_make 45 = .ok (.ireturn, 1) := by decide +kernel
theorem dX0_make_46 : decode cX0_make 46 = .ok (.aload_n 0, 1) := by decide +kernel
theorem dX0_make_47 : decode cX0_make 47 = .ok (.aload_n 1, 1) := by decide +kernel
theorem dX0_make_48 : decode cX0_make 48 = .ok (.iload_n 3, 1) := by decide +kernel
theorem dX0_make_49 : decode cX0_make 49 = .ok (.invokevirtual 32, 3) := by decide +kernel
theorem dX0_make_52 : decode cX0_make 52 = .ok (.ireturn, 1) := by decide +kernel
theorem dX0_make_53 : decode cX0_make 53 = .ok (.aload_n 0, 1) := by decide +kernel
theorem dX0_make_54 : decode cX0_make 54 = .ok (.aload_n 1, 1) := by decide +kernel
theorem dX0_make_55 : decode cX0_make 55 = .ok (.invokevirtual 36, 3) := by decide +kernel
theorem dX0_make_58 : decode cX0_make 58 = .ok (.ireturn, 1) := by decide +kernel
theorem dX0_changeNote_0 : decode cX0_changeNote 0 = .ok (.iload_n 2, 1) := by decide +kernel
theorem dX0_changeNote_1 : decode cX0_changeNote 1 = .ok (.invokestatic 40, 3) := by decide +kernel
theorem dX0_changeNote_4 : decode cX0_changeNote 4 = .ok (.ifCond .eq 10, 3) := by decide +kernel
theorem dX0_changeNote_7 : decode cX0_changeNote 7 = .ok (.iload_n 3, 1) := by decide +kernel
theorem dX0_changeNote_8 : decode cX0_changeNote 8 = .ok (.invokestatic 44, 3) := by decide +kernel
theorem dX0_changeNote_11 : decode cX0_changeNote 11 = .ok (.ifCond .ne 5, 3) := by decide +kernel
theorem dX0_changeNote_14 : decode cX0_changeNote 14 = .ok (.iconst (-1), 1) := by decide +kernel
theorem dX0_changeNote_15 : decode cX0_changeNote 15 = .ok (.ireturn, 1) := by decide +kernel
theorem dX0_changeNote_16 : decode cX0_changeNote 16 = .ok (.aload_n 1, 1) := by decide +kernel
theorem dX0_changeNote_17 : decode cX0_changeNote 17 = .ok (.getfield 47, 3) := by decide +kernel
theorem dX0_changeNote_20 : decode cX0_changeNote 20 = .ok (.iload_n 3, 1) := by decide +kernel
theorem dX0_changeNote_21 : decode cX0_changeNote 21 = .ok (.dup2, 1) := by decide +kernel
theorem dX0_changeNote_22 : decode cX0_changeNote 22 = .ok (.iaload, 1) := by decide +kernel
theorem dX0_changeNote_23 : decode cX0_changeNote 23 = .ok (.iconst 1, 1) := by decide +kernel
theorem dX0_changeNote_24 : decode cX0_changeNote 24 = .ok (.iload_n 2, 1) := by decide +kernel
theorem dX0_changeNote_25 : decode cX0_changeNote 25 = .ok (.ishl, 1) := by decide +kernel
theorem dX0_changeNote_26 : decode cX0_changeNote 26 = .ok (.ixor, 1) := by decide +kernel
theorem dX0_changeNote_27 : decode cX0_changeNote 27 = .ok (.iastore, 1) := by decide +kernel
theorem dX0_changeNote_28 : decode cX0_changeNote 28 = .ok (.aload_n 0, 1) := by decide +kernel
theorem dX0_changeNote_29 : decode cX0_changeNote 29 = .ok (.iconst 0, 1) := by decide +kernel
theorem dX0_changeNote_30 : decode cX0_changeNote 30 = .ok (.iload_n 2, 1) := by decide +kernel
theorem dX0_changeNote_31 : decode cX0_changeNote 31 = .ok (.iload_n 3, 1) := by decide +kernel
theorem dX0_changeNote_32 : decode cX0_changeNote 32 = .ok (.invokevirtual 52, 3) := by decide +kernel
theorem dX0_changeNote_35 : decode cX0_changeNote 35 = .ok (.aload_n 1, 1) := by decide +kernel
theorem dX0_changeNote_36 : decode cX0_changeNote 36 = .ok (.getfield 47, 3) := by decide +kernel
theorem dX0_changeNote_39 : decode cX0_changeNote 39 = .ok (.iload_n 3, 1) := by decide +kernel
theorem dX0_changeNote_40 : decode cX0_changeNote 40 = .ok (.iaload, 1) := by decide +kernel
theorem dX0_changeNote_41 : decode cX0_changeNote 41 = .ok (.ireturn, 1) := by decide +kernel
theorem dX0_giveKey_0 : decode cX0_giveKey 0 = .ok (.iload_n 2, 1) := by decide +kernel
theorem dX0_giveKey_1 : decode cX0_giveKey 1 = .ok (.invokestatic 40, 3) := by decide +kernel
theorem dX0_giveKey_4 : decode cX0_giveKey 4 = .ok (.ifCond .ne 5, 3) := by decide +kernel
theorem dX0_giveKey_7 : decode cX0_giveKey 7 = .ok (.iconst (-1), 1) := by decide +kernel
theorem dX0_giveKey_8 : decode cX0_giveKey 8 = .ok (.ireturn, 1) := by decide +kernel
theorem dX0_giveKey_9 : decode cX0_giveKey 9 = .ok (.iload_n 3, 1) := by decide +kernel
theorem dX0_giveKey_10 : decode cX0_giveKey 10 = .ok (.iconst (-1), 1) := by decide +kernel
theorem dX0_giveKey_11 : decode cX0_giveKey 11 = .ok (.if_icmp .eq 14, 3) := by decide +kernel
theorem dX0_giveKey_14 : decode cX0_giveKey 14 = .ok (.aload_n 1, 1) := by decide +kernel
theorem dX0_giveKey_15 : decode cX0_giveKey 15 = .ok (.iload_n 3, 1) := by decide +kernel
theorem dX0_giveKey_16 : decode cX0_giveKey 16 = .ok (.invokevirtual 56, 3) := by decide +kernel
theorem dX0_giveKey_19 : decode cX0_giveKey 19 = .ok (.ifCond .ne 6, 3) := by decide +kernel
theorem dX0_giveKey_22 : decode cX0_giveKey 22 = .ok (.bipush (-2), 2) := by decide +kernel
theorem dX0_giveKey_24 : decode cX0_giveKey 24 = .ok (.ireturn, 1) := by decide +kernel
theorem dX0_giveKey_25 : decode cX0_giveKey 25 = .ok (.aload_n 1, 1) := by decide +kernel
theorem dX0_giveKey_26 : decode cX0_giveKey 26 = .ok (.getfield 59, 3) := by decide +kernel
theorem dX0_giveKey_29 : decode cX0_giveKey 29 = .ok (.iload_n 2, 1) := by decide +kernel
theorem dX0_giveKey_30 : decode cX0_giveKey 30 = .ok (.iaload, 1) := by decide +kernel
theorem dX0_giveKey_31 : decode cX0_giveKey 31 = .ok (.istore 4, 2) := by decide +kernel
theorem dX0_giveKey_33 : decode cX0_giveKey 33 = .ok (.iload 4, 2) := by decide +kernel
theorem dX0_giveKey_35 : decode cX0_giveKey 35 = .ok (.iload_n 3, 1) := by decide +kernel
theorem dX0_giveKey_36 : decode cX0_giveKey 36 = .ok (.if_icmp .ne 6, 3) := by decide +kernel
theorem dX0_giveKey_39 : decode cX0_giveKey 39 = .ok (.bipush (-3), 2) := by decide +kernel
theorem dX0_giveKey_41 : decode cX0_giveKey 41 = .ok (.ireturn, 1) := by decide +kernel
theorem dX0_giveKey_42 : decode cX0_giveKey 42 = .ok (.aload_n 1, 1) := by decide +kernel
theorem dX0_giveKey_43 : decode cX0_giveKey 43 = .ok (.getfield 59, 3) := by decide +kernel
theorem dX0_giveKey_46 : decode cX0_giveKey 46 = .ok (.iload_n 2, 1) := by decide +kernel
theorem dX0_giveKey_47 : decode cX0_giveKey 47 = .ok (.iload_n 3, 1) := by decide +kernel
theorem dX0_giveKey_48 : decode cX0_giveKey 48 = .ok (.iastore, 1) := by decide +kernel
theorem dX0_giveKey_49 : decode cX0_giveKey 49 = .ok (.aload_n 0, 1) := by decide +kernel
theorem dX0_giveKey_50 : decode cX0_giveKey 50 = .ok (.iconst 1, 1) := by decide +kernel
theorem dX0_giveKey_51 : decode cX0_giveKey 51 = .ok (.iload_n 2, 1) := by decide +kernel
theorem dX0_giveKey_52 : decode cX0_giveKey 52 = .ok (.iload 4, 2) := by decide +kernel
theorem dX0_giveKey_54 : decode cX0_giveKey 54 = .ok (.invokevirtual 52, 3) := by decide +kernel
theorem dX0_giveKey_57 : decode cX0_giveKey 57 = .ok (.iload 4, 2) := by decide +kernel
theorem dX0_giveKey_59 : decode cX0_giveKey 59 = .ok (.iconst (-1), 1) := by decide +kernel
theorem dX0_giveKey_60 : decode cX0_giveKey 60 = .ok (.if_icmp .ne 8, 3) := by decide +kernel
theorem dX0_giveKey_63 : decode cX0_giveKey 63 = .ok (.bipush 6, 2) := by decide +kernel
theorem dX0_giveKey_65 : decode cX0_giveKey 65 = .ok (.goto 5, 3) := by decide +kernel
theorem dX0_giveKey_68 : decode cX0_giveKey 68 = .ok (.iload 4, 2) := by decide +kernel
theorem dX0_giveKey_70 : decode cX0_giveKey 70 = .ok (.ireturn, 1) := by decide +kernel
theorem dX0_shiftMusic_0 : decode cX0_shiftMusic 0 = .ok (.iload_n 2, 1) := by decide +kernel
theorem dX0_shiftMusic_1 : decode cX0_shiftMusic 1 = .ok (.bipush (-7), 2) := by decide +kernel
theorem dX0_shiftMusic_3 : decode cX0_shiftMusic 3 = .ok (.if_icmp .lt 13, 3) := by decide +kernel
theorem dX0_shiftMusic_6 : decode cX0_shiftMusic 6 = .ok (.iload_n 2, 1) := by decide +kernel
theorem dX0_shiftMusic_7 : decode cX0_shiftMusic 7 = .ok (.bipush 7, 2) := by decide +kernel
theorem dX0_shiftMusic_9 : decode cX0_shiftMusic 9 = .ok (.if_icmp .gt 7, 3) := by decide +kernel
theorem dX0_shiftMusic_12 : decode cX0_shiftMusic 12 = .ok (.iload_n 2, 1) := by decide +kernel
theorem dX0_shiftMusic_13 : decode cX0_shiftMusic 13 = .ok (.ifCond .ne 5, 3) := by decide +kernel
theorem dX0_shiftMusic_16 : decode cX0_shiftMusic 16 = .ok (.iconst (-1), 1) := by decide +kernel
theorem dX0_shiftMusic_17 : decode cX0_shiftMusic 17 = .ok (.ireturn, 1) := by decide +kernel
theorem dX0_shiftMusic_18 : decode cX0_shiftMusic 18 = .ok (.aload_n 1, 1) := by decide +kernel
theorem dX0_shiftMusic_19 : decode cX0_shiftMusic 19 = .ok (.iload_n 2, 1) := by decide +kernel
theorem dX0_shiftMusic_20 : decode cX0_shiftMusic 20 = .ok (.invokevirtual 62, 3) := by decide +kernel
theorem dX0_shiftMusic_23 : decode cX0_shiftMusic 23 = .ok (.ifCond .ne 6, 3) := by decide +kernel
theorem dX0_shiftMusic_26 : decode cX0_shiftMusic 26 = .ok (.bipush (-3), 2) := by decide +kernel
theorem dX0_shiftMusic_28 : decode cX0_shiftMusic 28 = .ok (.ireturn, 1) := by decide +kernel
theorem dX0_shiftMusic_29 : decode cX0_shiftMusic 29 = .ok (.aload_n 1, 1) := by decide +kernel
theorem dX0_shiftMusic_30 : decode cX0_shiftMusic 30 = .ok (.iload_n 2, 1) := by decide +kernel
theorem dX0_shiftMusic_31 : decode cX0_shiftMusic 31 = .ok (.invokevirtual 65, 3) := by decide +kernel
theorem dX0_shiftMusic_34 : decode cX0_shiftMusic 34 = .ok (.aload_n 0, 1) := by decide +kernel
theorem dX0_shiftMusic_35 : decode cX0_shiftMusic 35 = .ok (.iconst 2, 1) := by decide +kernel
theorem dX0_shiftMusic_36 : decode cX0_shiftMusic 36 = .ok (.iload_n 2, 1) := by decide +kernel
theorem dX0_shiftMusic_37 : decode cX0_shiftMusic 37 = .ok (.iconst 0, 1) := by decide +kernel
theorem dX0_shiftMusic_38 : decode cX0_shiftMusic 38 = .ok (.invokevirtual 52, 3) := by decide +kernel
theorem dX0_shiftMusic_41 : decode cX0_shiftMusic 41 = .ok (.aload_n 1, 1) := by decide +kernel
theorem dX0_shiftMusic_42 : decode cX0_shiftMusic 42 = .ok (.invokevirtual 69, 3) := by decide +kernel
theorem dX0_shiftMusic_45 : decode cX0_shiftMusic 45 = .ok (.ireturn, 1) := by decide +kernel
theorem dX0_passDay_0 : decode cX0_passDay 0 = .ok (.aload_n 1, 1) := by decide +kernel
theorem dX0_passDay_1 : decode cX0_passDay 1 = .ok (.getfield 73, 3) := by decide +kernel
theorem dX0_passDay_4 : decode cX0_passDay 4 = .ok (.iconst 0, 1) := by decide +kernel
theorem dX0_passDay_5 : decode cX0_passDay 5 = .ok (.iaload, 1) := by decide +kernel
theorem dX0_passDay_6 : decode cX0_passDay 6 = .ok (.sipush 999, 3) := by decide +kernel
theorem dX0_passDay_9 : decode cX0_passDay 9 = .ok (.if_icmp .lt 6, 3) := by decide +kernel
theorem dX0_passDay_12 : decode cX0_passDay 12 = .ok (.bipush (-3), 2) := by decide +kernel
theorem dX0_passDay_14 : decode cX0_passDay 14 = .ok (.ireturn, 1) := by decide +kernel
theorem dX0_passDay_15 : decode cX0_passDay 15 = .ok (.aload_n 1, 1) := by decide +kernel
theorem dX0_passDay_16 : decode cX0_passDay 16 = .ok (.getfield 73, 3) := by decide +kernel
theorem dX0_passDay_19 : decode cX0_passDay 19 = .ok (.iconst 0, 1) := by decide +kernel
theorem dX0_passDay_20 : decode cX0_passDay 20 = .ok (.dup2, 1) := by decide +kernel
theorem dX0_passDay_21 : decode cX0_passDay 21 = .ok (.iaload, 1) := by decide +kernel
theorem dX0_passDay_22 : decode cX0_passDay 22 = .ok (.iconst 1, 1) := by decide +kernel
theorem dX0_passDay_23 : decode cX0_passDay 23 = .ok (.iadd, 1) := by decide +kernel
theorem dX0_passDay_24 : decode cX0_passDay 24 = .ok (.iastore, 1) := by decide +kernel
theorem dX0_passDay_25 : decode cX0_passDay 25 = .ok (.aload_n 0, 1) := by decide +kernel
theorem dX0_passDay_26 : decode cX0_passDay 26 = .ok (.iconst 3, 1) := by decide +kernel
theorem dX0_passDay_27 : decode cX0_passDay 27 = .ok (.iconst 0, 1) := by decide +kernel
theorem dX0_passDay_28 : decode cX0_passDay 28 = .ok (.iconst 0, 1) := by decide +kernel
theorem dX0_passDay_29 : decode cX0_passDay 29 = .ok (.invokevirtual 52, 3) := by decide +kernel
theorem dX0_passDay_32 : decode cX0_passDay 32 = .ok (.aload_n 1, 1) := by decide +kernel
theorem dX0_passDay_33 : decode cX0_passDay 33 = .ok (.getfield 73, 3) := by decide +kernel
theorem dX0_passDay_36 : decode cX0_passDay 36 = .ok (.iconst 0, 1) := by decide +kernel
theorem dX0_passDay_37 : decode cX0_passDay 37 = .ok (.iaload, 1) := by decide +kernel
theorem dX0_passDay_38 : decode cX0_passDay 38 = .ok (.ireturn, 1) := by decide +kernel
theorem dX0_keep_0 : decode cX0_keep 0 = .ok (.aload_n 0, 1) := by decide +kernel
theorem dX0_keep_1 : decode cX0_keep 1 = .ok (.getfield 21, 3) := by decide +kernel
theorem dX0_keep_4 : decode cX0_keep 4 = .ok (.sipush 256, 3) := by decide +kernel
theorem dX0_keep_7 : decode cX0_keep 7 = .ok (.if_icmp .lt 7, 3) := by decide +kernel
theorem dX0_keep_10 : decode cX0_keep 10 = .ok (.aload_n 0, 1) := by decide +kernel
theorem dX0_keep_11 : decode cX0_keep 11 = .ok (.invokevirtual 76, 3) := by decide +kernel
theorem dX0_keep_14 : decode cX0_keep 14 = .ok (.aload_n 0, 1) := by decide +kernel
theorem dX0_keep_15 : decode cX0_keep 15 = .ok (.getfield 9, 3) := by decide +kernel
theorem dX0_keep_18 : decode cX0_keep 18 = .ok (.aload_n 0, 1) := by decide +kernel
theorem dX0_keep_19 : decode cX0_keep 19 = .ok (.getfield 21, 3) := by decide +kernel
theorem dX0_keep_22 : decode cX0_keep 22 = .ok (.iload_n 1, 1) := by decide +kernel
theorem dX0_keep_23 : decode cX0_keep 23 = .ok (.iastore, 1) := by decide +kernel
theorem dX0_keep_24 : decode cX0_keep 24 = .ok (.aload_n 0, 1) := by decide +kernel
theorem dX0_keep_25 : decode cX0_keep 25 = .ok (.getfield 15, 3) := by decide +kernel
theorem dX0_keep_28 : decode cX0_keep 28 = .ok (.aload_n 0, 1) := by decide +kernel
theorem dX0_keep_29 : decode cX0_keep 29 = .ok (.getfield 21, 3) := by decide +kernel
theorem dX0_keep_32 : decode cX0_keep 32 = .ok (.iload_n 2, 1) := by decide +kernel
theorem dX0_keep_33 : decode cX0_keep 33 = .ok (.iastore, 1) := by decide +kernel
theorem dX0_keep_34 : decode cX0_keep 34 = .ok (.aload_n 0, 1) := by decide +kernel
theorem dX0_keep_35 : decode cX0_keep 35 = .ok (.getfield 18, 3) := by decide +kernel
theorem dX0_keep_38 : decode cX0_keep 38 = .ok (.aload_n 0, 1) := by decide +kernel
theorem dX0_keep_39 : decode cX0_keep 39 = .ok (.getfield 21, 3) := by decide +kernel
theorem dX0_keep_42 : decode cX0_keep 42 = .ok (.iload_n 3, 1) := by decide +kernel
theorem dX0_keep_43 : decode cX0_keep 43 = .ok (.iastore, 1) := by decide +kernel
theorem dX0_keep_44 : decode cX0_keep 44 = .ok (.aload_n 0, 1) := by decide +kernel
theorem dX0_keep_45 : decode cX0_keep 45 = .ok (.dup, 1) := by decide +kernel
theorem dX0_keep_46 : decode cX0_keep 46 = .ok (.getfield 21, 3) := by decide +kernel
theorem dX0_keep_49 : decode cX0_keep 49 = .ok (.iconst 1, 1) := by decide +kernel
theorem dX0_keep_50 : decode cX0_keep 50 = .ok (.iadd, 1) := by decide +kernel
theorem dX0_keep_51 : decode cX0_keep 51 = .ok (.putfield 21, 3) := by decide +kernel
theorem dX0_keep_54 : decode cX0_keep 54 = .ok (.return_, 1) := by decide +kernel
theorem dX0_keepLatest_0 : decode cX0_keepLatest 0 = .ok (.aload_n 0, 1) := by decide +kernel
theorem dX0_keepLatest_1 : decode cX0_keepLatest 1 = .ok (.getfield 21, 3) := by decide +kernel
theorem dX0_keepLatest_4 : decode cX0_keepLatest 4 = .ok (.bipush 16, 2) := by decide +kernel
theorem dX0_keepLatest_6 : decode cX0_keepLatest 6 = .ok (.isub, 1) := by decide +kernel
theorem dX0_keepLatest_7 : decode cX0_keepLatest 7 = .ok (.istore_n 1, 1) := by decide +kernel
theorem dX0_keepLatest_8 : decode cX0_keepLatest 8 = .ok (.iload_n 1, 1) := by decide +kernel
theorem dX0_keepLatest_9 : decode cX0_keepLatest 9 = .ok (.ifCond .gt 4, 3) := by decide +kernel
theorem dX0_keepLatest_12 : decode cX0_keepLatest 12 = .ok (.return_, 1) := by decide +kernel
theorem dX0_keepLatest_13 : decode cX0_keepLatest 13 = .ok (.aload_n 0, 1) := by decide +kernel
theorem dX0_keepLatest_14 : decode cX0_keepLatest 14 = .ok (.getfield 9, 3) := by decide +kernel
theorem dX0_keepLatest_17 : decode cX0_keepLatest 17 = .ok (.iload_n 1, 1) := by decide +kernel
theorem dX0_keepLatest_18 : decode cX0_keepLatest 18 = .ok (.aload_n 0, 1) := by decide +kernel
theorem dX0_keepLatest_19 : decode cX0_keepLatest 19 = .ok (.getfield 9, 3) := by decide +kernel
theorem dX0_keepLatest_22 : decode cX0_keepLatest 22 = .ok (.iconst 0, 1) := by decide +kernel
theorem dX0_keepLatest_23 : decode cX0_keepLatest 23 = .ok (.bipush 16, 2) := by decide +kernel
theorem dX0_keepLatest_25 : decode cX0_keepLatest 25 = .ok (.invokestatic 79, 3) := by decide +kernel
theorem dX0_keepLatest_28 : decode cX0_keepLatest 28 = .ok (.aload_n 0, 1) := by decide +kernel
theorem dX0_keepLatest_29 : decode cX0_keepLatest 29 = .ok (.getfield 15, 3) := by decide +kernel
theorem dX0_keepLatest_32 : decode cX0_keepLatest 32 = .ok (.iload_n 1, 1) := by decide +kernel
theorem dX0_keepLatest_33 : decode cX0_keepLatest 33 = .ok (.aload_n 0, 1) := by decide +kernel
theorem dX0_keepLatest_34 : decode cX0_keepLatest 34 = .ok (.getfield 15, 3) := by decide +kernel
theorem dX0_keepLatest_37 : decode cX0_keepLatest 37 = .ok (.iconst 0, 1) := by decide +kernel
theorem dX0_keepLatest_38 : decode cX0_keepLatest 38 = .ok (.bipush 16, 2) := by decide +kernel
theorem dX0_keepLatest_40 : decode cX0_keepLatest 40 = .ok (.invokestatic 79, 3) := by decide +kernel
theorem dX0_keepLatest_43 : decode cX0_keepLatest 43 = .ok (.aload_n 0, 1) := by decide +kernel
theorem dX0_keepLatest_44 : decode cX0_keepLatest 44 = .ok (.getfield 18, 3) := by decide +kernel
theorem dX0_keepLatest_47 : decode cX0_keepLatest 47 = .ok (.iload_n 1, 1) := by decide +kernel
theorem dX0_keepLatest_48 : decode cX0_keepLatest 48 = .ok (.aload_n 0, 1) := by decide +kernel
theorem dX0_keepLatest_49 : decode cX0_keepLatest 49 = .ok (.getfield 18, 3) := by decide +kernel
theorem dX0_keepLatest_52 : decode cX0_keepLatest 52 = .ok (.iconst 0, 1) := by decide +kernel
theorem dX0_keepLatest_53 : decode cX0_keepLatest 53 = .ok (.bipush 16, 2) := by decide +kernel
theorem dX0_keepLatest_55 : decode cX0_keepLatest 55 = .ok (.invokestatic 79, 3) := by decide +kernel
theorem dX0_keepLatest_58 : decode cX0_keepLatest 58 = .ok (.aload_n 0, 1) := by decide +kernel
theorem dX0_keepLatest_59 : decode cX0_keepLatest 59 = .ok (.bipush 16, 2) := by decide +kernel
theorem dX0_keepLatest_61 : decode cX0_keepLatest 61 = .ok (.putfield 21, 3) := by decide +kernel
theorem dX0_keepLatest_64 : decode cX0_keepLatest 64 = .ok (.return_, 1) := by decide +kernel
theorem dX0_takeBack_0 : decode cX0_takeBack 0 = .ok (.aload_n 0, 1) := by decide +kernel
theorem dX0_takeBack_1 : decode cX0_takeBack 1 = .ok (.getfield 21, 3) := by decide +kernel
theorem dX0_takeBack_4 : decode cX0_takeBack 4 = .ok (.ifCond .ne 5, 3) := by decide +kernel
theorem dX0_takeBack_7 : decode cX0_takeBack 7 = .ok (.iconst (-1), 1) := by decide +kernel
theorem dX0_takeBack_8 : decode cX0_takeBack 8 = .ok (.ireturn, 1) := by decide +kernel
theorem dX0_takeBack_9 : decode cX0_takeBack 9 = .ok (.aload_n 0, 1) := by decide +kernel
theorem dX0_takeBack_10 : decode cX0_takeBack 10 = .ok (.dup, 1) := by decide +kernel
theorem dX0_takeBack_11 : decode cX0_takeBack 11 = .ok (.getfield 21, 3) := by decide +kernel
theorem dX0_takeBack_14 : decode cX0_takeBack 14 = .ok (.iconst 1, 1) := by decide +kernel
theorem dX0_takeBack_15 : decode cX0_takeBack 15 = .ok (.isub, 1) := by decide +kernel
theorem dX0_takeBack_16 : decode cX0_takeBack 16 = .ok (.putfield 21, 3) := by decide +kernel
theorem dX0_takeBack_19 : decode cX0_takeBack 19 = .ok (.aload_n 0, 1) := by decide +kernel
theorem dX0_takeBack_20 : decode cX0_takeBack 20 = .ok (.getfield 15, 3) := by decide +kernel
theorem dX0_takeBack_23 : decode cX0_takeBack 23 = .ok (.aload_n 0, 1) := by decide +kernel
theorem dX0_takeBack_24 : decode cX0_takeBack 24 = .ok (.getfield 21, 3) := by decide +kernel
theorem dX0_takeBack_27 : decode cX0_takeBack 27 = .ok (.iaload, 1) := by decide +kernel
theorem dX0_takeBack_28 : decode cX0_takeBack 28 = .ok (.istore_n 2, 1) := by decide +kernel
theorem dX0_takeBack_29 : decode cX0_takeBack 29 = .ok (.aload_n 0, 1) := by decide +kernel
theorem dX0_takeBack_30 : decode cX0_takeBack 30 = .ok (.getfield 18, 3) := by decide +kernel
theorem dX0_takeBack_33 : decode cX0_takeBack 33 = .ok (.aload_n 0, 1) := by decide +kernel
theorem dX0_takeBack_34 : decode cX0_takeBack 34 = .ok (.getfield 21, 3) := by decide +kernel
theorem dX0_takeBack_37 : decode cX0_takeBack 37 = .ok (.iaload, 1) := by decide +kernel
theorem dX0_takeBack_38 : decode cX0_takeBack 38 = .ok (.istore_n 3, 1) := by decide +kernel
theorem dX0_takeBack_39 : decode cX0_takeBack 39 = .ok (.aload_n 0, 1) := by decide +kernel
theorem dX0_takeBack_40 : decode cX0_takeBack 40 = .ok (.getfield 9, 3) := by decide +kernel
theorem dX0_takeBack_43 : decode cX0_takeBack 43 = .ok (.aload_n 0, 1) := by decide +kernel
theorem dX0_takeBack_44 : decode cX0_takeBack 44 = .ok (.getfield 21, 3) := by decide +kernel
theorem dX0_takeBack_47 : decode cX0_takeBack 47 = .ok (.iaload, 1) := by decide +kernel
theorem dX0_takeBack_48 : decode cX0_takeBack 48 = .ok (.tableswitch 62 0 2 #[28, 43, 53], 28) := by decide +kernel
theorem dX0_takeBack_76 : decode cX0_takeBack 76 = .ok (.aload_n 1, 1) := by decide +kernel
theorem dX0_takeBack_77 : decode cX0_takeBack 77 = .ok (.getfield 47, 3) := by decide +kernel
theorem dX0_takeBack_80 : decode cX0_takeBack 80 = .ok (.iload_n 3, 1) := by decide +kernel
theorem dX0_takeBack_81 : decode cX0_takeBack 81 = .ok (.dup2, 1) := by decide +kernel
theorem dX0_takeBack_82 : decode cX0_takeBack 82 = .ok (.iaload, 1) := by decide +kernel
theorem dX0_takeBack_83 : decode cX0_takeBack 83 = .ok (.iconst 1, 1) := by decide +kernel
theorem dX0_takeBack_84 : decode cX0_takeBack 84 = .ok (.iload_n 2, 1) := by decide +kernel
theorem dX0_takeBack_85 : decode cX0_takeBack 85 = .ok (.ishl, 1) := by decide +kernel
theorem dX0_takeBack_86 : decode cX0_takeBack 86 = .ok (.ixor, 1) := by decide +kernel
theorem dX0_takeBack_87 : decode cX0_takeBack 87 = .ok (.iastore, 1) := by decide +kernel
theorem dX0_takeBack_88 : decode cX0_takeBack 88 = .ok (.goto 32, 3) := by decide +kernel
theorem dX0_takeBack_91 : decode cX0_takeBack 91 = .ok (.aload_n 1, 1) := by decide +kernel
theorem dX0_takeBack_92 : decode cX0_takeBack 92 = .ok (.getfield 59, 3) := by decide +kernel
theorem dX0_takeBack_95 : decode cX0_takeBack 95 = .ok (.iload_n 2, 1) := by decide +kernel
theorem dX0_takeBack_96 : decode cX0_takeBack 96 = .ok (.iload_n 3, 1) := by decide +kernel
theorem dX0_takeBack_97 : decode cX0_takeBack 97 = .ok (.iastore, 1) := by decide +kernel
theorem dX0_takeBack_98 : decode cX0_takeBack 98 = .ok (.goto 22, 3) := by decide +kernel
theorem dX0_takeBack_101 : decode cX0_takeBack 101 = .ok (.aload_n 1, 1) := by decide +kernel
theorem dX0_takeBack_102 : decode cX0_takeBack 102 = .ok (.iload_n 2, 1) := by decide +kernel
theorem dX0_takeBack_103 : decode cX0_takeBack 103 = .ok (.ineg, 1) := by decide +kernel
theorem dX0_takeBack_104 : decode cX0_takeBack 104 = .ok (.invokevirtual 65, 3) := by decide +kernel
theorem dX0_takeBack_107 : decode cX0_takeBack 107 = .ok (.goto 13, 3) := by decide +kernel
theorem dX0_takeBack_110 : decode cX0_takeBack 110 = .ok (.aload_n 1, 1) := by decide +kernel
theorem dX0_takeBack_111 : decode cX0_takeBack 111 = .ok (.getfield 73, 3) := by decide +kernel
theorem dX0_takeBack_114 : decode cX0_takeBack 114 = .ok (.iconst 0, 1) := by decide +kernel
theorem dX0_takeBack_115 : decode cX0_takeBack 115 = .ok (.dup2, 1) := by decide +kernel
theorem dX0_takeBack_116 : decode cX0_takeBack 116 = .ok (.iaload, 1) := by decide +kernel
theorem dX0_takeBack_117 : decode cX0_takeBack 117 = .ok (.iconst 1, 1) := by decide +kernel
theorem dX0_takeBack_118 : decode cX0_takeBack 118 = .ok (.isub, 1) := by decide +kernel
theorem dX0_takeBack_119 : decode cX0_takeBack 119 = .ok (.iastore, 1) := by decide +kernel
theorem dX0_takeBack_120 : decode cX0_takeBack 120 = .ok (.aload_n 0, 1) := by decide +kernel
theorem dX0_takeBack_121 : decode cX0_takeBack 121 = .ok (.getfield 9, 3) := by decide +kernel
theorem dX0_takeBack_124 : decode cX0_takeBack 124 = .ok (.aload_n 0, 1) := by decide +kernel
theorem dX0_takeBack_125 : decode cX0_takeBack 125 = .ok (.getfield 21, 3) := by decide +kernel
theorem dX0_takeBack_128 : decode cX0_takeBack 128 = .ok (.iaload, 1) := by decide +kernel
theorem dX0_takeBack_129 : decode cX0_takeBack 129 = .ok (.ireturn, 1) := by decide +kernel
theorem dX6_runAll_0 : decode cX6_runAll 0 = .ok (.aload_n 0, 1) := by decide +kernel
theorem dX6_runAll_1 : decode cX6_runAll 1 = .ok (.iconst 0, 1) := by decide +kernel
theorem dX6_runAll_2 : decode cX6_runAll 2 = .ok (.putfield 26, 3) := by decide +kernel
theorem dX6_runAll_5 : decode cX6_runAll 5 = .ok (.aload_n 0, 1) := by decide +kernel
theorem dX6_runAll_6 : decode cX6_runAll 6 = .ok (.iconst (-1), 1) := by decide +kernel
theorem dX6_runAll_7 : decode cX6_runAll 7 = .ok (.putfield 29, 3) := by decide +kernel
theorem dX6_runAll_10 : decode cX6_runAll 10 = .ok (.iconst 0, 1) := by decide +kernel
theorem dX6_runAll_11 : decode cX6_runAll 11 = .ok (.istore 5, 2) := by decide +kernel
theorem dX6_runAll_13 : decode cX6_runAll 13 = .ok (.iload 5, 2) := by decide +kernel
theorem dX6_runAll_15 : decode cX6_runAll 15 = .ok (.aload_n 1, 1) := by decide +kernel
theorem dX6_runAll_16 : decode cX6_runAll 16 = .ok (.getfield 32, 3) := by decide +kernel
theorem dX6_runAll_19 : decode cX6_runAll 19 = .ok (.if_icmp .ge 81, 3) := by decide +kernel
theorem dX6_runAll_22 : decode cX6_runAll 22 = .ok (.iconst 0, 1) := by decide +kernel
theorem dX6_runAll_23 : decode cX6_runAll 23 = .ok (.istore 6, 2) := by decide +kernel
theorem dX6_runAll_25 : decode cX6_runAll 25 = .ok (.iload 6, 2) := by decide +kernel
theorem dX6_runAll_27 : decode cX6_runAll 27 = .ok (.aload_n 1, 1) := by decide +kernel
theorem dX6_runAll_28 : decode cX6_runAll 28 = .ok (.getfield 37, 3) := by decide +kernel
theorem dX6_runAll_31 : decode cX6_runAll 31 = .ok (.iload 5, 2) := by decide +kernel
theorem dX6_runAll_33 : decode cX6_runAll 33 = .ok (.iaload, 1) := by decide +kernel
theorem dX6_runAll_34 : decode cX6_runAll 34 = .ok (.if_icmp .ge 60, 3) := by decide +kernel
theorem dX6_runAll_37 : decode cX6_runAll 37 = .ok (.aload_n 0, 1) := by decide +kernel
theorem dX6_runAll_38 : decode cX6_runAll 38 = .ok (.aload_n 2, 1) := by decide +kernel
theorem dX6_runAll_39 : decode cX6_runAll 39 = .ok (.invokevirtual 40, 3) := by decide +kernel
theorem dX6_runAll_42 : decode cX6_runAll 42 = .ok (.aload_n 1, 1) := by decide +kernel
theorem dX6_runAll_43 : decode cX6_runAll 43 = .ok (.getfield 44, 3) := by decide +kernel
theorem dX6_runAll_46 : decode cX6_runAll 46 = .ok (.ifCond .eq 15, 3) := by decide +kernel
theorem dX6_runAll_49 : decode cX6_runAll 49 = .ok (.aload_n 0, 1) := by decide +kernel
theorem dX6_runAll_50 : decode cX6_runAll 50 = .ok (.getfield 18, 3) := by decide +kernel
theorem dX6_runAll_53 : decode cX6_runAll 53 = .ok (.iconst 3, 1) := by decide +kernel
theorem dX6_runAll_54 : decode cX6_runAll 54 = .ok (.aload 4, 2) := by decide +kernel
theorem dX6_runAll_56 : decode cX6_runAll 56 = .ok (.aload_n 2, 1) := by decide +kernel
theorem dX6_runAll_57 : decode cX6_runAll 57 = .ok (.invokevirtual 48, 3) := by decide +kernel
theorem dX6_runAll_60 : decode cX6_runAll 60 = .ok (.iastore, 1) := by decide +kernel
theorem dX6_runAll_61 : decode cX6_runAll 61 = .ok (.aload_n 0, 1) := by decide +kernel
theorem dX6_runAll_62 : decode cX6_runAll 62 = .ok (.aload_n 1, 1) := by decide +kernel
theorem dX6_runAll_63 : decode cX6_runAll 63 = .ok (.iload 5, 2) := by decide +kernel
theorem dX6_runAll_65 : decode cX6_runAll 65 = .ok (.aload_n 2, 1) := by decide +kernel
theorem dX6_runAll_66 : decode cX6_runAll 66 = .ok (.aload_n 3, 1) := by decide +kernel
theorem dX6_runAll_67 : decode cX6_runAll 67 = .ok (.invokevirtual 54, 3) := by decide +kernel
theorem dX6_runAll_70 : decode cX6_runAll 70 = .ok (.ifCond .ne 18, 3) := by decide +kernel
theorem dX6_runAll_73 : decode cX6_runAll 73 = .ok (.aload_n 0, 1) := by decide +kernel
theorem dX6_runAll_74 : decode cX6_runAll 74 = .ok (.iload 5, 2) := by decide +kernel
theorem dX6_runAll_76 : decode cX6_runAll 76 = .ok (.putfield 22, 3) := by decide +kernel
theorem dX6_runAll_79 : decode cX6_runAll 79 = .ok (.aload_n 0, 1) := by decide +kernel
theorem dX6_runAll_80 : decode cX6_runAll 80 = .ok (.aload_n 2, 1) := by decide +kernel
theorem dX6_runAll_81 : decode cX6_runAll 81 = .ok (.aload_n 3, 1) := by decide +kernel
theorem dX6_runAll_82 : decode cX6_runAll 82 = .ok (.invokevirtual 58, 3) := by decide +kernel
theorem dX6_runAll_85 : decode cX6_runAll 85 = .ok (.bipush (-3), 2) := by decide +kernel
theorem dX6_runAll_87 : decode cX6_runAll 87 = .ok (.ireturn, 1) := by decide +kernel
theorem dX6_runAll_88 : decode cX6_runAll 88 = .ok (.iinc 6 1, 3) := by decide +kernel
theorem dX6_runAll_91 : decode cX6_runAll 91 = .ok (.goto (-66), 3) := by decide +kernel
theorem dX6_runAll_94 : decode cX6_runAll 94 = .ok (.iinc 5 1, 3) := by decide +kernel
theorem dX6_runAll_97 : decode cX6_runAll 97 = .ok (.goto (-84), 3) := by decide +kernel
theorem dX6_runAll_100 : decode cX6_runAll 100 = .ok (.aload_n 3, 1) := by decide +kernel
theorem dX6_runAll_101 : decode cX6_runAll 101 = .ok (.invokevirtual 62, 3) := by decide +kernel
theorem dX6_runAll_104 : decode cX6_runAll 104 = .ok (.aload_n 0, 1) := by decide +kernel
theorem dX6_runAll_105 : decode cX6_runAll 105 = .ok (.getfield 26, 3) := by decide +kernel
theorem dX6_runAll_108 : decode cX6_runAll 108 = .ok (.ireturn, 1) := by decide +kernel
theorem dX6_runOnce_0 : decode cX6_runOnce 0 = .ok (.aload_n 1, 1) := by decide +kernel
theorem dX6_runOnce_1 : decode cX6_runOnce 1 = .ok (.getfield 67, 3) := by decide +kernel
theorem dX6_runOnce_4 : decode cX6_runOnce 4 = .ok (.iload_n 2, 1) := by decide +kernel
theorem dX6_runOnce_5 : decode cX6_runOnce 5 = .ok (.iaload, 1) := by decide +kernel
theorem dX6_runOnce_6 : decode cX6_runOnce 6 = .ok (.iconst (-1), 1) := by decide +kernel
theorem dX6_runOnce_7 : decode cX6_runOnce 7 = .ok (.if_icmp .ne 7, 3) := by decide +kernel
theorem dX6_runOnce_10 : decode cX6_runOnce 10 = .ok (.lconst 1, 1) := by decide +kernel
theorem dX6_runOnce_11 : decode cX6_runOnce 11 = .ok (.goto 24, 3) := by decide +kernel
theorem dX6_runOnce_14 : decode cX6_runOnce 14 = .ok (.aload_n 0, 1) := by decide +kernel
theorem dX6_runOnce_15 : decode cX6_runOnce 15 = .ok (.getfield 12, 3) := by decide +kernel
theorem dX6_runOnce_18 : decode cX6_runOnce 18 = .ok (.aload_n 1, 1) := by decide +kernel
theorem dX6_runOnce_19 : decode cX6_runOnce 19 = .ok (.getfield 70, 3) := by decide +kernel
theorem dX6_runOnce_22 : decode cX6_runOnce 22 = .ok (.aload_n 1, 1) := by decide +kernel
theorem dX6_runOnce_23 : decode cX6_runOnce 23 = .ok (.getfield 67, 3) := by decide +kernel
theorem dX6_runOnce_26 : decode cX6_runOnce 26 = .ok (.iload_n 2, 1) := by decide +kernel
theorem dX6_runOnce_27 : decode cX6_runOnce 27 = .ok (.iaload, 1) := by decide +kernel
theorem dX6_runOnce_28 : decode cX6_runOnce 28 = .ok (.aload_n 0, 1) := by decide +kernel
theorem dX6_runOnce_29 : decode cX6_runOnce 29 = .ok (.getfield 18, 3) := by decide +kernel
theorem dX6_runOnce_32 : decode cX6_runOnce 32 = .ok (.invokevirtual 73, 3) := by decide +kernel
theorem dX6_runOnce_35 : decode cX6_runOnce 35 = .ok (.lstore 5, 2) := by decide +kernel
theorem dX6_runOnce_37 : decode cX6_runOnce 37 = .ok (.lload 5, 2) := by decide +kernel
theorem dX6_runOnce_39 : decode cX6_runOnce 39 = .ok (.ldc2_w 77, 3) := by decide +kernel
theorem dX6_runOnce_42 : decode cX6_runOnce 42 = .ok (.lcmp, 1) := by decide +kernel
theorem dX6_runOnce_43 : decode cX6_runOnce 43 = .ok (.ifCond .eq 10, 3) := by decide +kernel
theorem dX6_runOnce_46 : decode cX6_runOnce 46 = .ok (.lload 5, 2) := by decide +kernel
theorem dX6_runOnce_48 : decode cX6_runOnce 48 = .ok (.lconst 0, 1) := by decide +kernel
theorem dX6_runOnce_49 : decode cX6_runOnce 49 = .ok (.lcmp, 1) := by decide +kernel
theorem dX6_runOnce_50 : decode cX6_runOnce 50 = .ok (.ifCond .ne 5, 3) := by decide +kernel
theorem dX6_runOnce_53 : decode cX6_runOnce 53 = .ok (.iconst 1, 1) := by decide +kernel
theorem dX6_runOnce_54 : decode cX6_runOnce 54 = .ok (.ireturn, 1) := by decide +kernel
theorem dX6_runOnce_55 : decode cX6_runOnce 55 = .ok (.aload_n 0, 1) := by decide +kernel
theorem dX6_runOnce_56 : decode cX6_runOnce 56 = .ok (.aload_n 1, 1) := by decide +kernel
theorem dX6_runOnce_57 : decode cX6_runOnce 57 = .ok (.aload_n 1, 1) := by decide +kernel
theorem dX6_runOnce_58 : decode cX6_runOnce 58 = .ok (.getfield 79, 3) := by decide +kernel
theorem dX6_runOnce_61 : decode cX6_runOnce 61 = .ok (.iload_n 2, 1) := by decide +kernel
theorem dX6_runOnce_62 : decode cX6_runOnce 62 = .ok (.iaload, 1) := by decide +kernel
theorem dX6_runOnce_63 : decode cX6_runOnce 63 = .ok (.invokevirtual 82, 3) := by decide +kernel
theorem dX6_runOnce_66 : decode cX6_runOnce 66 = .ok (.lstore 7, 2) := by decide +kernel
theorem dX6_runOnce_68 : decode cX6_runOnce 68 = .ok (.aload_n 0, 1) := by decide +kernel
theorem dX6_runOnce_69 : decode cX6_runOnce 69 = .ok (.aload_n 1, 1) := by decide +kernel
theorem dX6_runOnce_70 : decode cX6_runOnce 70 = .ok (.aload_n 1, 1) := by decide +kernel
theorem dX6_runOnce_71 : decode cX6_runOnce 71 = .ok (.getfield 86, 3) := by decide +kernel
theorem dX6_runOnce_74 : decode cX6_runOnce 74 = .ok (.iload_n 2, 1) := by decide +kernel
theorem dX6_runOnce_75 : decode cX6_runOnce 75 = .ok (.iaload, 1) := by decide +kernel
theorem dX6_runOnce_76 : decode cX6_runOnce 76 = .ok (.invokevirtual 82, 3) := by decide +kernel
theorem dX6_runOnce_79 : decode cX6_runOnce 79 = .ok (.lstore 9, 2) := by decide +kernel
theorem dX6_runOnce_81 : decode cX6_runOnce 81 = .ok (.lload 7, 2) := by decide +kernel
theorem dX6_runOnce_83 : decode cX6_runOnce 83 = .ok (.ldc2_w 77, 3) := by decide +kernel
theorem dX6_runOnce_86 : decode cX6_runOnce 86 = .ok (.lcmp, 1) := by decide +kernel
theorem dX6_runOnce_87 : decode cX6_runOnce 87 = .ok (.ifCond .eq 12, 3) := by decide +kernel
theorem dX6_runOnce_90 : decode cX6_runOnce 90 = .ok (.lload 9, 2) := by decide +kernel
theorem dX6_runOnce_92 : decode cX6_runOnce 92 = .ok (.ldc2_w 77, 3) := by decide +kernel
theorem dX6_runOnce_95 : decode cX6_runOnce 95 = .ok (.lcmp, 1) := by decide +kernel
theorem dX6_runOnce_96 : decode cX6_runOnce 96 = .ok (.ifCond .ne 5, 3) := by decide +kernel
theorem dX6_runOnce_99 : decode cX6_runOnce 99 = .ok (.iconst 0, 1) := by decide +kernel
theorem dX6_runOnce_100 : decode cX6_runOnce 100 = .ok (.ireturn, 1) := by decide +kernel
theorem dX6_runOnce_101 : decode cX6_runOnce 101 = .ok (.aload 4, 2) := by decide +kernel
theorem dX6_runOnce_103 : decode cX6_runOnce 103 = .ok (.aload_n 3, 1) := by decide +kernel
theorem dX6_runOnce_104 : decode cX6_runOnce 104 = .ok (.aload_n 1, 1) := by decide +kernel
theorem dX6_runOnce_105 : decode cX6_runOnce 105 = .ok (.getfield 89, 3) := by decide +kernel
theorem dX6_runOnce_108 : decode cX6_runOnce 108 = .ok (.iload_n 2, 1) := by decide +kernel
theorem dX6_runOnce_109 : decode cX6_runOnce 109 = .ok (.iaload, 1) := by decide +kernel
theorem dX6_runOnce_110 : decode cX6_runOnce 110 = .ok (.lload 7, 2) := by decide +kernel
theorem dX6_runOnce_112 : decode cX6_runOnce 112 = .ok (.l2i, 1) := by decide +kernel
theorem dX6_runOnce_113 : decode cX6_runOnce 113 = .ok (.lload 9, 2) := by decide +kernel
theorem dX6_runOnce_115 : decode cX6_runOnce 115 = .ok (.l2i, 1) := by decide +kernel
theorem dX6_runOnce_116 : decode cX6_runOnce 116 = .ok (.invokevirtual 92, 3) := by decide +kernel
theorem dX6_runOnce_119 : decode cX6_runOnce 119 = .ok (.istore 11, 2) := by decide +kernel
theorem dX6_runOnce_121 : decode cX6_runOnce 121 = .ok (.iload 11, 2) := by decide +kernel
theorem dX6_runOnce_123 : decode cX6_runOnce 123 = .ok (.ifCond .ge 5, 3) := by decide +kernel
theorem dX6_runOnce_126 : decode cX6_runOnce 126 = .ok (.iconst 0, 1) := by decide +kernel
theorem dX6_runOnce_127 : decode cX6_runOnce 127 = .ok (.ireturn, 1) := by decide +kernel
theorem dX6_runOnce_128 : decode cX6_runOnce 128 = .ok (.aload_n 1, 1) := by decide +kernel
theorem dX6_runOnce_129 : decode cX6_runOnce 129 = .ok (.getfield 89, 3) := by decide +kernel
theorem dX6_runOnce_132 : decode cX6_runOnce 132 = .ok (.iload_n 2, 1) := by decide +kernel
theorem dX6_runOnce_133 : decode cX6_runOnce 133 = .ok (.iaload, 1) := by decide +kernel
theorem dX6_runOnce_134 : decode cX6_runOnce 134 = .ok (.iconst 2, 1) := by decide +kernel
theorem dX6_runOnce_135 : decode cX6_runOnce 135 = .ok (.if_icmp .ne 9, 3) := by decide +kernel
theorem dX6_runOnce_138 : decode cX6_runOnce 138 = .ok (.aload_n 0, 1) := by decide +kernel
theorem dX6_runOnce_139 : decode cX6_runOnce 139 = .ok (.iload 11, 2) := by decide +kernel
theorem dX6_runOnce_141 : decode cX6_runOnce 141 = .ok (.putfield 29, 3) := by decide +kernel
theorem dX6_runOnce_144 : decode cX6_runOnce 144 = .ok (.aload_n 0, 1) := by decide +kernel
theorem dX6_runOnce_145 : decode cX6_runOnce 145 = .ok (.dup, 1) := by decide +kernel
theorem dX6_runOnce_146 : decode cX6_runOnce 146 = .ok (.getfield 26, 3) := by decide +kernel
theorem dX6_runOnce_149 : decode cX6_runOnce 149 = .ok (.iconst 1, 1) := by decide +kernel
theorem dX6_runOnce_150 : decode cX6_runOnce 150 = .ok (.iadd, 1) := by decide +kernel
theorem dX6_runOnce_151 : decode cX6_runOnce 151 = .ok (.putfield 26, 3) := by decide +kernel
theorem dX6_runOnce_154 : decode cX6_runOnce 154 = .ok (.iconst 1, 1) := by decide +kernel
theorem dX6_runOnce_155 : decode cX6_runOnce 155 = .ok (.ireturn, 1) := by decide +kernel
theorem dX6_sumOf_0 : decode cX6_sumOf 0 = .ok (.iload_n 2, 1) := by decide +kernel
theorem dX6_sumOf_1 : decode cX6_sumOf 1 = .ok (.iconst (-1), 1) := by decide +kernel
theorem dX6_sumOf_2 : decode cX6_sumOf 2 = .ok (.if_icmp .ne 7, 3) := by decide +kernel
theorem dX6_sumOf_5 : decode cX6_sumOf 5 = .ok (.lconst 0, 1) := by decide +kernel
theorem dX6_sumOf_6 : decode cX6_sumOf 6 = .ok (.goto 19, 3) := by decide +kernel
theorem dX6_sumOf_9 : decode cX6_sumOf 9 = .ok (.aload_n 0, 1) := by decide +kernel
theorem dX6_sumOf_10 : decode cX6_sumOf 10 = .ok (.getfield 12, 3) := by decide +kernel
theorem dX6_sumOf_13 : decode cX6_sumOf 13 = .ok (.aload_n 1, 1) := by decide +kernel
theorem dX6_sumOf_14 : decode cX6_sumOf 14 = .ok (.getfield 70, 3) := by decide +kernel
theorem dX6_sumOf_17 : decode cX6_sumOf 17 = .ok (.iload_n 2, 1) := by decide +kernel
theorem dX6_sumOf_18 : decode cX6_sumOf 18 = .ok (.aload_n 0, 1) := by decide +kernel
theorem dX6_sumOf_19 : decode cX6_sumOf 19 = .ok (.getfield 18, 3) := by decide +kernel
theorem dX6_sumOf_22 : decode cX6_sumOf 22 = .ok (.invokevirtual 73, 3) := by decide +kernel
theorem dX6_sumOf_25 : decode cX6_sumOf 25 = .ok (.lreturn, 1) := by decide +kernel
theorem dX6_tellWords_0 : decode cX6_tellWords 0 = .ok (.aload_n 0, 1) := by decide +kernel
theorem dX6_tellWords_1 : decode cX6_tellWords 1 = .ok (.getfield 18, 3) := by decide +kernel
theorem dX6_tellWords_4 : decode cX6_tellWords 4 = .ok (.iconst 0, 1) := by decide +kernel
theorem dX6_tellWords_5 : decode cX6_tellWords 5 = .ok (.aload_n 1, 1) := by decide +kernel
theorem dX6_tellWords_6 : decode cX6_tellWords 6 = .ok (.getfield 96, 3) := by decide +kernel
theorem dX6_tellWords_9 : decode cX6_tellWords 9 = .ok (.iconst 0, 1) := by decide +kernel
theorem dX6_tellWords_10 : decode cX6_tellWords 10 = .ok (.iaload, 1) := by decide +kernel
theorem dX6_tellWords_11 : decode cX6_tellWords 11 = .ok (.iastore, 1) := by decide +kernel
theorem dX6_tellWords_12 : decode cX6_tellWords 12 = .ok (.aload_n 0, 1) := by decide +kernel
theorem dX6_tellWords_13 : decode cX6_tellWords 13 = .ok (.getfield 18, 3) := by decide +kernel
theorem dX6_tellWords_16 : decode cX6_tellWords 16 = .ok (.iconst 1, 1) := by decide +kernel
theorem dX6_tellWords_17 : decode cX6_tellWords 17 = .ok (.aload_n 0, 1) := by decide +kernel
theorem dX6_tellWords_18 : decode cX6_tellWords 18 = .ok (.getfield 26, 3) := by decide +kernel
theorem dX6_tellWords_21 : decode cX6_tellWords 21 = .ok (.iastore, 1) := by decide +kernel
theorem dX6_tellWords_22 : decode cX6_tellWords 22 = .ok (.aload_n 0, 1) := by decide +kernel
theorem dX6_tellWords_23 : decode cX6_tellWords 23 = .ok (.getfield 18, 3) := by decide +kernel
theorem dX6_tellWords_26 : decode cX6_tellWords 26 = .ok (.iconst 2, 1) := by decide +kernel
theorem dX6_tellWords_27 : decode cX6_tellWords 27 = .ok (.aload_n 0, 1) := by decide +kernel
theorem dX6_tellWords_28 : decode cX6_tellWords 28 = .ok (.getfield 29, 3) := by decide +kernel
theorem dX6_tellWords_31 : decode cX6_tellWords 31 = .ok (.iastore, 1) := by decide +kernel
theorem dX6_tellWords_32 : decode cX6_tellWords 32 = .ok (.aload_n 0, 1) := by decide +kernel
theorem dX6_tellWords_33 : decode cX6_tellWords 33 = .ok (.getfield 18, 3) := by decide +kernel
theorem dX6_tellWords_36 : decode cX6_tellWords 36 = .ok (.iconst 4, 1) := by decide +kernel
theorem dX6_tellWords_37 : decode cX6_tellWords 37 = .ok (.aload_n 1, 1) := by decide +kernel
theorem dX6_tellWords_38 : decode cX6_tellWords 38 = .ok (.invokevirtual 101, 3) := by decide +kernel
theorem dX6_tellWords_41 : decode cX6_tellWords 41 = .ok (.iastore, 1) := by decide +kernel
theorem dX6_tellWords_42 : decode cX6_tellWords 42 = .ok (.iconst 0, 1) := by decide +kernel
theorem dX6_tellWords_43 : decode cX6_tellWords 43 = .ok (.istore_n 2, 1) := by decide +kernel
theorem dX6_tellWords_44 : decode cX6_tellWords 44 = .ok (.iload_n 2, 1) := by decide +kernel
theorem dX6_tellWords_45 : decode cX6_tellWords 45 = .ok (.bipush 16, 2) := by decide +kernel
theorem dX6_tellWords_47 : decode cX6_tellWords 47 = .ok (.if_icmp .ge 23, 3) := by decide +kernel
theorem dX6_tellWords_50 : decode cX6_tellWords 50 = .ok (.aload_n 0, 1) := by decide +kernel
theorem dX6_tellWords_51 : decode cX6_tellWords 51 = .ok (.getfield 18, 3) := by decide +kernel
theorem dX6_tellWords_54 : decode cX6_tellWords 54 = .ok (.iconst 5, 1) := by decide +kernel
theorem dX6_tellWords_55 : decode cX6_tellWords 55 = .ok (.iload_n 2, 1) := by decide +kernel
theorem dX6_tellWords_56 : decode cX6_tellWords 56 = .ok (.iadd, 1) := by decide +kernel
theorem dX6_tellWords_57 : decode cX6_tellWords 57 = .ok (.aload_n 1, 1) := by decide +kernel
theorem dX6_tellWords_58 : decode cX6_tellWords 58 = .ok (.getfield 105, 3) := by decide +kernel
theorem dX6_tellWords_61 : decode cX6_tellWords 61 = .ok (.iload_n 2, 1) := by decide +kernel
theorem dX6_tellWords_62 : decode cX6_tellWords 62 = .ok (.iaload, 1) := by decide +kernel
theorem dX6_tellWords_63 : decode cX6_tellWords 63 = .ok (.iastore, 1) := by decide +kernel
theorem dX6_tellWords_64 : decode cX6_tellWords 64 = .ok (.iinc 2 1, 3) := by decide +kernel
theorem dX6_tellWords_67 : decode cX6_tellWords 67 = .ok (.goto (-23), 3) := by decide +kernel
theorem dX6_tellWords_70 : decode cX6_tellWords 70 = .ok (.iconst 0, 1) := by decide +kernel
theorem dX6_tellWords_71 : decode cX6_tellWords 71 = .ok (.istore_n 2, 1) := by decide +kernel
theorem dX6_tellWords_72 : decode cX6_tellWords 72 = .ok (.iload_n 2, 1) := by decide +kernel
theorem dX6_tellWords_73 : decode cX6_tellWords 73 = .ok (.bipush 8, 2) := by decide +kernel
theorem dX6_tellWords_75 : decode cX6_tellWords 75 = .ok (.if_icmp .ge 24, 3) := by decide +kernel
theorem dX6_tellWords_78 : decode cX6_tellWords 78 = .ok (.aload_n 0, 1) := by decide +kernel
theorem dX6_tellWords_79 : decode cX6_tellWords 79 = .ok (.getfield 18, 3) := by decide +kernel
theorem dX6_tellWords_82 : decode cX6_tellWords 82 = .ok (.bipush 21, 2) := by decide +kernel
theorem dX6_tellWords_84 : decode cX6_tellWords 84 = .ok (.iload_n 2, 1) := by decide +kernel
theorem dX6_tellWords_85 : decode cX6_tellWords 85 = .ok (.iadd, 1) := by decide +kernel
theorem dX6_tellWords_86 : decode cX6_tellWords 86 = .ok (.aload_n 1, 1) := by decide +kernel
theorem dX6_tellWords_87 : decode cX6_tellWords 87 = .ok (.getfield 108, 3) := by decide +kernel
theorem dX6_tellWords_90 : decode cX6_tellWords 90 = .ok (.iload_n 2, 1) := by decide +kernel
theorem dX6_tellWords_91 : decode cX6_tellWords 91 = .ok (.iaload, 1) := by decide +kernel
theorem dX6_tellWords_92 : decode cX6_tellWords 92 = .ok (.iastore, 1) := by decide +kernel
theorem dX6_tellWords_93 : decode cX6_tellWords 93 = .ok (.iinc 2 1, 3) := by decide +kernel
theorem dX6_tellWords_96 : decode cX6_tellWords 96 = .ok (.goto (-24), 3) := by decide +kernel
theorem dX6_tellWords_99 : decode cX6_tellWords 99 = .ok (.return_, 1) := by decide +kernel
theorem dX6_takeAllBack_0 : decode cX6_takeAllBack 0 = .ok (.iconst 0, 1) := by decide +kernel
theorem dX6_takeAllBack_1 : decode cX6_takeAllBack 1 = .ok (.istore_n 3, 1) := by decide +kernel
theorem dX6_takeAllBack_2 : decode cX6_takeAllBack 2 = .ok (.iload_n 3, 1) := by decide +kernel
theorem dX6_takeAllBack_3 : decode cX6_takeAllBack 3 = .ok (.aload_n 0, 1) := by decide +kernel
theorem dX6_takeAllBack_4 : decode cX6_takeAllBack 4 = .ok (.getfield 26, 3) := by decide +kernel
theorem dX6_takeAllBack_7 : decode cX6_takeAllBack 7 = .ok (.if_icmp .ge 15, 3) := by decide +kernel
theorem dX6_takeAllBack_10 : decode cX6_takeAllBack 10 = .ok (.aload_n 2, 1) := by decide +kernel
theorem dX6_takeAllBack_11 : decode cX6_takeAllBack 11 = .ok (.aload_n 1, 1) := by decide +kernel
theorem dX6_takeAllBack_12 : decode cX6_takeAllBack 12 = .ok (.invokevirtual 111, 3) := by decide +kernel
theorem dX6_takeAllBack_15 : decode cX6_takeAllBack 15 = .ok (.pop, 1) := by decide +kernel
theorem dX6_takeAllBack_16 : decode cX6_takeAllBack 16 = .ok (.iinc 3 1, 3) := by decide +kernel
theorem dX6_takeAllBack_19 : decode cX6_takeAllBack 19 = .ok (.goto (-17), 3) := by decide +kernel
theorem dX6_takeAllBack_22 : decode cX6_takeAllBack 22 = .ok (.return_, 1) := by decide +kernel
