/-! decode rows -/
theorem dX7_copyFrom_0 : decode cX7_copyFrom 0 = .ok (.aload_n 0, 1) := by decide +kernel
theorem dX7_copyFrom_1 : decode cX7_copyFrom 1 = .ok (.aload_n 1, 1) := by decide +kernel
theorem dX7_copyFrom_2 : decode cX7_copyFrom 2 = .ok (.getfield 46, 3) := by decide +kernel
theorem dX7_copyFrom_5 : decode cX7_copyFrom 5 = .ok (.putfield 46, 3) := by decide +kernel
theorem dX7_copyFrom_8 : decode cX7_copyFrom 8 = .ok (.aload_n 1, 1) := by decide +kernel
theorem dX7_copyFrom_9 : decode cX7_copyFrom 9 = .ok (.getfield 9, 3) := by decide +kernel
theorem dX7_copyFrom_12 : decode cX7_copyFrom 12 = .ok (.iconst 0, 1) := by decide +kernel
theorem dX7_copyFrom_13 : decode cX7_copyFrom 13 = .ok (.aload_n 0, 1) := by decide +kernel
theorem dX7_copyFrom_14 : decode cX7_copyFrom 14 = .ok (.getfield 9, 3) := by decide +kernel
theorem dX7_copyFrom_17 : decode cX7_copyFrom 17 = .ok (.iconst 0, 1) := by decide +kernel
theorem dX7_copyFrom_18 : decode cX7_copyFrom 18 = .ok (.bipush 6, 2) := by decide +kernel
theorem dX7_copyFrom_20 : decode cX7_copyFrom 20 = .ok (.invokestatic 49, 3) := by decide +kernel
theorem dX7_copyFrom_23 : decode cX7_copyFrom 23 = .ok (.aload_n 1, 1) := by decide +kernel
theorem dX7_copyFrom_24 : decode cX7_copyFrom 24 = .ok (.getfield 15, 3) := by decide +kernel
theorem dX7_copyFrom_27 : decode cX7_copyFrom 27 = .ok (.iconst 0, 1) := by decide +kernel
theorem dX7_copyFrom_28 : decode cX7_copyFrom 28 = .ok (.aload_n 0, 1) := by decide +kernel
theorem dX7_copyFrom_29 : decode cX7_copyFrom 29 = .ok (.getfield 15, 3) := by decide +kernel
theorem dX7_copyFrom_32 : decode cX7_copyFrom 32 = .ok (.iconst 0, 1) := by decide +kernel
theorem dX7_copyFrom_33 : decode cX7_copyFrom 33 = .ok (.bipush 6, 2) := by decide +kernel
theorem dX7_copyFrom_35 : decode cX7_copyFrom 35 = .ok (.invokestatic 49, 3) := by decide +kernel
theorem dX7_copyFrom_38 : decode cX7_copyFrom 38 = .ok (.aload_n 1, 1) := by decide +kernel
theorem dX7_copyFrom_39 : decode cX7_copyFrom 39 = .ok (.getfield 18, 3) := by decide +kernel
theorem dX7_copyFrom_42 : decode cX7_copyFrom 42 = .ok (.iconst 0, 1) := by decide +kernel
theorem dX7_copyFrom_43 : decode cX7_copyFrom 43 = .ok (.aload_n 0, 1) := by decide +kernel
theorem dX7_copyFrom_44 : decode cX7_copyFrom 44 = .ok (.getfield 18, 3) := by decide +kernel
theorem dX7_copyFrom_47 : decode cX7_copyFrom 47 = .ok (.iconst 0, 1) := by decide +kernel
theorem dX7_copyFrom_48 : decode cX7_copyFrom 48 = .ok (.bipush 8, 2) := by decide +kernel
theorem dX7_copyFrom_50 : decode cX7_copyFrom 50 = .ok (.invokestatic 49, 3) := by decide +kernel
theorem dX7_copyFrom_53 : decode cX7_copyFrom 53 = .ok (.aload_n 1, 1) := by decide +kernel
theorem dX7_copyFrom_54 : decode cX7_copyFrom 54 = .ok (.getfield 21, 3) := by decide +kernel
theorem dX7_copyFrom_57 : decode cX7_copyFrom 57 = .ok (.iconst 0, 1) := by decide +kernel
theorem dX7_copyFrom_58 : decode cX7_copyFrom 58 = .ok (.aload_n 0, 1) := by decide +kernel
theorem dX7_copyFrom_59 : decode cX7_copyFrom 59 = .ok (.getfield 21, 3) := by decide +kernel
theorem dX7_copyFrom_62 : decode cX7_copyFrom 62 = .ok (.iconst 0, 1) := by decide +kernel
theorem dX7_copyFrom_63 : decode cX7_copyFrom 63 = .ok (.bipush 16, 2) := by decide +kernel
theorem dX7_copyFrom_65 : decode cX7_copyFrom 65 = .ok (.invokestatic 49, 3) := by decide +kernel
theorem dX7_copyFrom_68 : decode cX7_copyFrom 68 = .ok (.aload_n 1, 1) := by decide +kernel
theorem dX7_copyFrom_69 : decode cX7_copyFrom 69 = .ok (.getfield 24, 3) := by decide +kernel
theorem dX7_copyFrom_72 : decode cX7_copyFrom 72 = .ok (.iconst 0, 1) := by decide +kernel
theorem dX7_copyFrom_73 : decode cX7_copyFrom 73 = .ok (.aload_n 0, 1) := by decide +kernel
theorem dX7_copyFrom_74 : decode cX7_copyFrom 74 = .ok (.getfield 24, 3) := by decide +kernel
theorem dX7_copyFrom_77 : decode cX7_copyFrom 77 = .ok (.iconst 0, 1) := by decide +kernel
theorem dX7_copyFrom_78 : decode cX7_copyFrom 78 = .ok (.bipush 6, 2) := by decide +kernel
theorem dX7_copyFrom_80 : decode cX7_copyFrom 80 = .ok (.invokestatic 49, 3) := by decide +kernel
theorem dX7_copyFrom_83 : decode cX7_copyFrom 83 = .ok (.aload_n 0, 1) := by decide +kernel
theorem dX7_copyFrom_84 : decode cX7_copyFrom 84 = .ok (.aload_n 1, 1) := by decide +kernel
theorem dX7_copyFrom_85 : decode cX7_copyFrom 85 = .ok (.getfield 55, 3) := by decide +kernel
theorem dX7_copyFrom_88 : decode cX7_copyFrom 88 = .ok (.putfield 55, 3) := by decide +kernel
theorem dX7_copyFrom_91 : decode cX7_copyFrom 91 = .ok (.iconst 0, 1) := by decide +kernel
theorem dX7_copyFrom_92 : decode cX7_copyFrom 92 = .ok (.istore_n 2, 1) := by decide +kernel
theorem dX7_copyFrom_93 : decode cX7_copyFrom 93 = .ok (.iload_n 2, 1) := by decide +kernel
theorem dX7_copyFrom_94 : decode cX7_copyFrom 94 = .ok (.bipush 6, 2) := by decide +kernel
theorem dX7_copyFrom_96 : decode cX7_copyFrom 96 = .ok (.if_icmp .ge 21, 3) := by decide +kernel
theorem dX7_copyFrom_99 : decode cX7_copyFrom 99 = .ok (.aload_n 0, 1) := by decide +kernel
theorem dX7_copyFrom_100 : decode cX7_copyFrom 100 = .ok (.getfield 29, 3) := by decide +kernel
theorem dX7_copyFrom_103 : decode cX7_copyFrom 103 = .ok (.iload_n 2, 1) := by decide +kernel
theorem dX7_copyFrom_104 : decode cX7_copyFrom 104 = .ok (.aload_n 1, 1) := by decide +kernel
theorem dX7_copyFrom_105 : decode cX7_copyFrom 105 = .ok (.getfield 29, 3) := by decide +kernel
theorem dX7_copyFrom_108 : decode cX7_copyFrom 108 = .ok (.iload_n 2, 1) := by decide +kernel
theorem dX7_copyFrom_109 : decode cX7_copyFrom 109 = .ok (.aaload, 1) := by decide +kernel
theorem dX7_copyFrom_110 : decode cX7_copyFrom 110 = .ok (.aastore, 1) := by decide +kernel
theorem dX7_copyFrom_111 : decode cX7_copyFrom 111 = .ok (.iinc 2 1, 3) := by decide +kernel
theorem dX7_copyFrom_114 : decode cX7_copyFrom 114 = .ok (.goto (-21), 3) := by decide +kernel
theorem dX7_copyFrom_117 : decode cX7_copyFrom 117 = .ok (.aload_n 0, 1) := by decide +kernel
theorem dX7_copyFrom_118 : decode cX7_copyFrom 118 = .ok (.aload_n 1, 1) := by decide +kernel
theorem dX7_copyFrom_119 : decode cX7_copyFrom 119 = .ok (.getfield 58, 3) := by decide +kernel
theorem dX7_copyFrom_122 : decode cX7_copyFrom 122 = .ok (.putfield 58, 3) := by decide +kernel
theorem dX7_copyFrom_125 : decode cX7_copyFrom 125 = .ok (.aload_n 0, 1) := by decide +kernel
theorem dX7_copyFrom_126 : decode cX7_copyFrom 126 = .ok (.aload_n 1, 1) := by decide +kernel
theorem dX7_copyFrom_127 : decode cX7_copyFrom 127 = .ok (.getfield 33, 3) := by decide +kernel
theorem dX7_copyFrom_130 : decode cX7_copyFrom 130 = .ok (.putfield 33, 3) := by decide +kernel
theorem dX7_copyFrom_133 : decode cX7_copyFrom 133 = .ok (.aload_n 1, 1) := by decide +kernel
theorem dX7_copyFrom_134 : decode cX7_copyFrom 134 = .ok (.getfield 37, 3) := by decide +kernel
theorem dX7_copyFrom_137 : decode cX7_copyFrom 137 = .ok (.iconst 0, 1) := by decide +kernel
theorem dX7_copyFrom_138 : decode cX7_copyFrom 138 = .ok (.aload_n 0, 1) := by decide +kernel
theorem dX7_copyFrom_139 : decode cX7_copyFrom 139 = .ok (.getfield 37, 3) := by decide +kernel
theorem dX7_copyFrom_142 : decode cX7_copyFrom 142 = .ok (.iconst 0, 1) := by decide +kernel
theorem dX7_copyFrom_143 : decode cX7_copyFrom 143 = .ok (.aload_n 0, 1) := by decide +kernel
theorem dX7_copyFrom_144 : decode cX7_copyFrom 144 = .ok (.getfield 37, 3) := by decide +kernel
theorem dX7_copyFrom_147 : decode cX7_copyFrom 147 = .ok (.arraylength, 1) := by decide +kernel
theorem dX7_copyFrom_148 : decode cX7_copyFrom 148 = .ok (.invokestatic 49, 3) := by decide +kernel
theorem dX7_copyFrom_151 : decode cX7_copyFrom 151 = .ok (.return_, 1) := by decide +kernel
theorem dX7_hasHouse_0 : decode cX7_hasHouse 0 = .ok (.iload_n 1, 1) := by decide +kernel
theorem dX7_hasHouse_1 : decode cX7_hasHouse 1 = .ok (.ifCond .lt 15, 3) := by decide +kernel
theorem dX7_hasHouse_4 : decode cX7_hasHouse 4 = .ok (.iload_n 1, 1) := by decide +kernel
theorem dX7_hasHouse_5 : decode cX7_hasHouse 5 = .ok (.aload_n 0, 1) := by decide +kernel
theorem dX7_hasHouse_6 : decode cX7_hasHouse 6 = .ok (.getfield 46, 3) := by decide +kernel
theorem dX7_hasHouse_9 : decode cX7_hasHouse 9 = .ok (.if_icmp .ge 7, 3) := by decide +kernel
theorem dX7_hasHouse_12 : decode cX7_hasHouse 12 = .ok (.iconst 1, 1) := by decide +kernel
theorem dX7_hasHouse_13 : decode cX7_hasHouse 13 = .ok (.goto 4, 3) := by decide +kernel
theorem dX7_hasHouse_16 : decode cX7_hasHouse 16 = .ok (.iconst 0, 1) := by decide +kernel
theorem dX7_hasHouse_17 : decode cX7_hasHouse 17 = .ok (.ireturn, 1) := by decide +kernel
theorem dX7_hasLaw_0 : decode cX7_hasLaw 0 = .ok (.iload_n 1, 1) := by decide +kernel
theorem dX7_hasLaw_1 : decode cX7_hasLaw 1 = .ok (.ifCond .lt 15, 3) := by decide +kernel
theorem dX7_hasLaw_4 : decode cX7_hasLaw 4 = .ok (.iload_n 1, 1) := by decide +kernel
theorem dX7_hasLaw_5 : decode cX7_hasLaw 5 = .ok (.aload_n 0, 1) := by decide +kernel
theorem dX7_hasLaw_6 : decode cX7_hasLaw 6 = .ok (.getfield 58, 3) := by decide +kernel
theorem dX7_hasLaw_9 : decode cX7_hasLaw 9 = .ok (.if_icmp .ge 7, 3) := by decide +kernel
theorem dX7_hasLaw_12 : decode cX7_hasLaw 12 = .ok (.iconst 1, 1) := by decide +kernel
theorem dX7_hasLaw_13 : decode cX7_hasLaw 13 = .ok (.goto 4, 3) := by decide +kernel
theorem dX7_hasLaw_16 : decode cX7_hasLaw 16 = .ok (.iconst 0, 1) := by decide +kernel
theorem dX7_hasLaw_17 : decode cX7_hasLaw 17 = .ok (.ireturn, 1) := by decide +kernel
theorem dX7_lawInForce_0 : decode cX7_lawInForce 0 = .ok (.aload_n 0, 1) := by decide +kernel
theorem dX7_lawInForce_1 : decode cX7_lawInForce 1 = .ok (.aload_n 0, 1) := by decide +kernel
theorem dX7_lawInForce_2 : decode cX7_lawInForce 2 = .ok (.getfield 33, 3) := by decide +kernel
theorem dX7_lawInForce_5 : decode cX7_lawInForce 5 = .ok (.invokevirtual 61, 3) := by decide +kernel
theorem dX7_lawInForce_8 : decode cX7_lawInForce 8 = .ok (.ifCond .eq 15, 3) := by decide +kernel
theorem dX7_lawInForce_11 : decode cX7_lawInForce 11 = .ok (.aload_n 0, 1) := by decide +kernel
theorem dX7_lawInForce_12 : decode cX7_lawInForce 12 = .ok (.getfield 29, 3) := by decide +kernel
theorem dX7_lawInForce_15 : decode cX7_lawInForce 15 = .ok (.aload_n 0, 1) := by decide +kernel
theorem dX7_lawInForce_16 : decode cX7_lawInForce 16 = .ok (.getfield 33, 3) := by decide +kernel
theorem dX7_lawInForce_19 : decode cX7_lawInForce 19 = .ok (.aaload, 1) := by decide +kernel
theorem dX7_lawInForce_20 : decode cX7_lawInForce 20 = .ok (.goto 4, 3) := by decide +kernel
theorem dX7_lawInForce_23 : decode cX7_lawInForce 23 = .ok (.aconst_null, 1) := by decide +kernel
theorem dX7_lawInForce_24 : decode cX7_lawInForce 24 = .ok (.areturn, 1) := by decide +kernel
theorem dX7_keysOf_0 : decode cX7_keysOf 0 = .ok (.iconst 0, 1) := by decide +kernel
theorem dX7_keysOf_1 : decode cX7_keysOf 1 = .ok (.istore_n 2, 1) := by decide +kernel
theorem dX7_keysOf_2 : decode cX7_keysOf 2 = .ok (.iconst 0, 1) := by decide +kernel
theorem dX7_keysOf_3 : decode cX7_keysOf 3 = .ok (.istore_n 3, 1) := by decide +kernel
theorem dX7_keysOf_4 : decode cX7_keysOf 4 = .ok (.iload_n 3, 1) := by decide +kernel
theorem dX7_keysOf_5 : decode cX7_keysOf 5 = .ok (.bipush 8, 2) := by decide +kernel
theorem dX7_keysOf_7 : decode cX7_keysOf 7 = .ok (.if_icmp .ge 25, 3) := by decide +kernel
theorem dX7_keysOf_10 : decode cX7_keysOf 10 = .ok (.aload_n 0, 1) := by decide +kernel
theorem dX7_keysOf_11 : decode cX7_keysOf 11 = .ok (.getfield 18, 3) := by decide +kernel
theorem dX7_keysOf_14 : decode cX7_keysOf 14 = .ok (.iload_n 3, 1) := by decide +kernel
theorem dX7_keysOf_15 : decode cX7_keysOf 15 = .ok (.iaload, 1) := by decide +kernel
theorem dX7_keysOf_16 : decode cX7_keysOf 16 = .ok (.iload_n 1, 1) := by decide +kernel
theorem dX7_keysOf_17 : decode cX7_keysOf 17 = .ok (.if_icmp .ne 9, 3) := by decide +kernel
theorem dX7_keysOf_20 : decode cX7_keysOf 20 = .ok (.iload_n 2, 1) := by decide +kernel
theorem dX7_keysOf_21 : decode cX7_keysOf 21 = .ok (.iconst 1, 1) := by decide +kernel
theorem dX7_keysOf_22 : decode cX7_keysOf 22 = .ok (.iload_n 3, 1) := by decide +kernel
theorem dX7_keysOf_23 : decode cX7_keysOf 23 = .ok (.ishl, 1) := by decide +kernel
theorem dX7_keysOf_24 : decode cX7_keysOf 24 = .ok (.ior, 1) := by decide +kernel
theorem dX7_keysOf_25 : decode cX7_keysOf 25 = .ok (.istore_n 2, 1) := by decide +kernel
theorem dX7_keysOf_26 : decode cX7_keysOf 26 = .ok (.iinc 3 1, 3) := by decide +kernel
theorem dX7_keysOf_29 : decode cX7_keysOf 29 = .ok (.goto (-25), 3) := by decide +kernel
theorem dX7_keysOf_32 : decode cX7_keysOf 32 = .ok (.iload_n 2, 1) := by decide +kernel
theorem dX7_keysOf_33 : decode cX7_keysOf 33 = .ok (.ireturn, 1) := by decide +kernel
theorem dX7_countNotes_0 : decode cX7_countNotes 0 = .ok (.iconst 0, 1) := by decide +kernel
theorem dX7_countNotes_1 : decode cX7_countNotes 1 = .ok (.istore_n 1, 1) := by decide +kernel
theorem dX7_countNotes_2 : decode cX7_countNotes 2 = .ok (.iconst 0, 1) := by decide +kernel
theorem dX7_countNotes_3 : decode cX7_countNotes 3 = .ok (.istore_n 2, 1) := by decide +kernel
theorem dX7_countNotes_4 : decode cX7_countNotes 4 = .ok (.iload_n 2, 1) := by decide +kernel
theorem dX7_countNotes_5 : decode cX7_countNotes 5 = .ok (.bipush 16, 2) := by decide +kernel
theorem dX7_countNotes_7 : decode cX7_countNotes 7 = .ok (.if_icmp .ge 21, 3) := by decide +kernel
theorem dX7_countNotes_10 : decode cX7_countNotes 10 = .ok (.iload_n 1, 1) := by decide +kernel
theorem dX7_countNotes_11 : decode cX7_countNotes 11 = .ok (.aload_n 0, 1) := by decide +kernel
theorem dX7_countNotes_12 : decode cX7_countNotes 12 = .ok (.getfield 21, 3) := by decide +kernel
theorem dX7_countNotes_15 : decode cX7_countNotes 15 = .ok (.iload_n 2, 1) := by decide +kernel
theorem dX7_countNotes_16 : decode cX7_countNotes 16 = .ok (.iaload, 1) := by decide +kernel
theorem dX7_countNotes_17 : decode cX7_countNotes 17 = .ok (.invokestatic 65, 3) := by decide +kernel
theorem dX7_countNotes_20 : decode cX7_countNotes 20 = .ok (.iadd, 1) := by decide +kernel
theorem dX7_countNotes_21 : decode cX7_countNotes 21 = .ok (.istore_n 1, 1) := by decide +kernel
theorem dX7_countNotes_22 : decode cX7_countNotes 22 = .ok (.iinc 2 1, 3) := by decide +kernel
theorem dX7_countNotes_25 : decode cX7_countNotes 25 = .ok (.goto (-21), 3) := by decide +kernel
theorem dX7_countNotes_28 : decode cX7_countNotes 28 = .ok (.iload_n 1, 1) := by decide +kernel
theorem dX7_countNotes_29 : decode cX7_countNotes 29 = .ok (.ireturn, 1) := by decide +kernel
theorem dX7_canShift_0 : decode cX7_canShift 0 = .ok (.iconst 0, 1) := by decide +kernel
theorem dX7_canShift_1 : decode cX7_canShift 1 = .ok (.istore_n 2, 1) := by decide +kernel
theorem dX7_canShift_2 : decode cX7_canShift 2 = .ok (.iload_n 2, 1) := by decide +kernel
theorem dX7_canShift_3 : decode cX7_canShift 3 = .ok (.bipush 16, 2) := by decide +kernel
theorem dX7_canShift_5 : decode cX7_canShift 5 = .ok (.if_icmp .ge 25, 3) := by decide +kernel
theorem dX7_canShift_8 : decode cX7_canShift 8 = .ok (.aload_n 0, 1) := by decide +kernel
theorem dX7_canShift_9 : decode cX7_canShift 9 = .ok (.getfield 21, 3) := by decide +kernel
theorem dX7_canShift_12 : decode cX7_canShift 12 = .ok (.iload_n 2, 1) := by decide +kernel
theorem dX7_canShift_13 : decode cX7_canShift 13 = .ok (.iaload, 1) := by decide +kernel
theorem dX7_canShift_14 : decode cX7_canShift 14 = .ok (.iload_n 1, 1) := by decide +kernel
theorem dX7_canShift_15 : decode cX7_canShift 15 = .ok (.invokestatic 71, 3) := by decide +kernel
theorem dX7_canShift_18 : decode cX7_canShift 18 = .ok (.iconst (-1), 1) := by decide +kernel
theorem dX7_canShift_19 : decode cX7_canShift 19 = .ok (.if_icmp .ne 5, 3) := by decide +kernel
theorem dX7_canShift_22 : decode cX7_canShift 22 = .ok (.iconst 0, 1) := by decide +kernel
theorem dX7_canShift_23 : decode cX7_canShift 23 = .ok (.ireturn, 1) := by decide +kernel
theorem dX7_canShift_24 : decode cX7_canShift 24 = .ok (.iinc 2 1, 3) := by decide +kernel
theorem dX7_canShift_27 : decode cX7_canShift 27 = .ok (.goto (-25), 3) := by decide +kernel
theorem dX7_canShift_30 : decode cX7_canShift 30 = .ok (.iconst 1, 1) := by decide +kernel
theorem dX7_canShift_31 : decode cX7_canShift 31 = .ok (.ireturn, 1) := by decide +kernel
theorem dX7_shiftBy_0 : decode cX7_shiftBy 0 = .ok (.iconst 0, 1) := by decide +kernel
theorem dX7_shiftBy_1 : decode cX7_shiftBy 1 = .ok (.istore_n 2, 1) := by decide +kernel
theorem dX7_shiftBy_2 : decode cX7_shiftBy 2 = .ok (.iload_n 2, 1) := by decide +kernel
theorem dX7_shiftBy_3 : decode cX7_shiftBy 3 = .ok (.bipush 16, 2) := by decide +kernel
theorem dX7_shiftBy_5 : decode cX7_shiftBy 5 = .ok (.if_icmp .ge 25, 3) := by decide +kernel
theorem dX7_shiftBy_8 : decode cX7_shiftBy 8 = .ok (.aload_n 0, 1) := by decide +kernel
theorem dX7_shiftBy_9 : decode cX7_shiftBy 9 = .ok (.getfield 21, 3) := by decide +kernel
theorem dX7_shiftBy_12 : decode cX7_shiftBy 12 = .ok (.iload_n 2, 1) := by decide +kernel
theorem dX7_shiftBy_13 : decode cX7_shiftBy 13 = .ok (.aload_n 0, 1) := by decide +kernel
theorem dX7_shiftBy_14 : decode cX7_shiftBy 14 = .ok (.getfield 21, 3) := by decide +kernel
theorem dX7_shiftBy_17 : decode cX7_shiftBy 17 = .ok (.iload_n 2, 1) := by decide +kernel
theorem dX7_shiftBy_18 : decode cX7_shiftBy 18 = .ok (.iaload, 1) := by decide +kernel
theorem dX7_shiftBy_19 : decode cX7_shiftBy 19 = .ok (.iload_n 1, 1) := by decide +kernel
theorem dX7_shiftBy_20 : decode cX7_shiftBy 20 = .ok (.invokestatic 71, 3) := by decide +kernel
theorem dX7_shiftBy_23 : decode cX7_shiftBy 23 = .ok (.iastore, 1) := by decide +kernel
theorem dX7_shiftBy_24 : decode cX7_shiftBy 24 = .ok (.iinc 2 1, 3) := by decide +kernel
theorem dX7_shiftBy_27 : decode cX7_shiftBy 27 = .ok (.goto (-25), 3) := by decide +kernel
theorem dX7_shiftBy_30 : decode cX7_shiftBy 30 = .ok (.return_, 1) := by decide +kernel
theorem dX7_motifHasKeys_0 : decode cX7_motifHasKeys 0 = .ok (.iconst 0, 1) := by decide +kernel
theorem dX7_motifHasKeys_1 : decode cX7_motifHasKeys 1 = .ok (.istore_n 1, 1) := by decide +kernel
theorem dX7_motifHasKeys_2 : decode cX7_motifHasKeys 2 = .ok (.iload_n 1, 1) := by decide +kernel
theorem dX7_motifHasKeys_3 : decode cX7_motifHasKeys 3 = .ok (.aload_n 0, 1) := by decide +kernel
theorem dX7_motifHasKeys_4 : decode cX7_motifHasKeys 4 = .ok (.getfield 55, 3) := by decide +kernel
theorem dX7_motifHasKeys_7 : decode cX7_motifHasKeys 7 = .ok (.if_icmp .ge 20, 3) := by decide +kernel
theorem dX7_motifHasKeys_10 : decode cX7_motifHasKeys 10 = .ok (.aload_n 0, 1) := by decide +kernel
theorem dX7_motifHasKeys_11 : decode cX7_motifHasKeys 11 = .ok (.getfield 24, 3) := by decide +kernel
theorem dX7_motifHasKeys_14 : decode cX7_motifHasKeys 14 = .ok (.iload_n 1, 1) := by decide +kernel
theorem dX7_motifHasKeys_15 : decode cX7_motifHasKeys 15 = .ok (.iaload, 1) := by decide +kernel
theorem dX7_motifHasKeys_16 : decode cX7_motifHasKeys 16 = .ok (.ifCond .eq 5, 3) := by decide +kernel
theorem dX7_motifHasKeys_19 : decode cX7_motifHasKeys 19 = .ok (.iconst 1, 1) := by decide +kernel
theorem dX7_motifHasKeys_20 : decode cX7_motifHasKeys 20 = .ok (.ireturn, 1) := by decide +kernel
theorem dX7_motifHasKeys_21 : decode cX7_motifHasKeys 21 = .ok (.iinc 1 1, 3) := by decide +kernel
theorem dX7_motifHasKeys_24 : decode cX7_motifHasKeys 24 = .ok (.goto (-22), 3) := by decide +kernel
theorem dX7_motifHasKeys_27 : decode cX7_motifHasKeys 27 = .ok (.iconst 0, 1) := by decide +kernel
theorem dX7_motifHasKeys_28 : decode cX7_motifHasKeys 28 = .ok (.ireturn, 1) := by decide +kernel
theorem dX7_motifStands_0 : decode cX7_motifStands 0 = .ok (.iconst 0, 1) := by decide +kernel
theorem dX7_motifStands_1 : decode cX7_motifStands 1 = .ok (.istore_n 3, 1) := by decide +kernel
theorem dX7_motifStands_2 : decode cX7_motifStands 2 = .ok (.iload_n 3, 1) := by decide +kernel
theorem dX7_motifStands_3 : decode cX7_motifStands 3 = .ok (.aload_n 0, 1) := by decide +kernel
theorem dX7_motifStands_4 : decode cX7_motifStands 4 = .ok (.getfield 55, 3) := by decide +kernel
theorem dX7_motifStands_7 : decode cX7_motifStands 7 = .ok (.if_icmp .ge 41, 3) := by decide +kernel
theorem dX7_motifStands_10 : decode cX7_motifStands 10 = .ok (.iload_n 1, 1) := by decide +kernel
theorem dX7_motifStands_11 : decode cX7_motifStands 11 = .ok (.iload_n 3, 1) := by decide +kernel
theorem dX7_motifStands_12 : decode cX7_motifStands 12 = .ok (.iadd, 1) := by decide +kernel
theorem dX7_motifStands_13 : decode cX7_motifStands 13 = .ok (.invokestatic 75, 3) := by decide +kernel
theorem dX7_motifStands_16 : decode cX7_motifStands 16 = .ok (.ifCond .eq 24, 3) := by decide +kernel
theorem dX7_motifStands_19 : decode cX7_motifStands 19 = .ok (.aload_n 0, 1) := by decide +kernel
theorem dX7_motifStands_20 : decode cX7_motifStands 20 = .ok (.getfield 24, 3) := by decide +kernel
theorem dX7_motifStands_23 : decode cX7_motifStands 23 = .ok (.iload_n 3, 1) := by decide +kernel
theorem dX7_motifStands_24 : decode cX7_motifStands 24 = .ok (.iaload, 1) := by decide +kernel
theorem dX7_motifStands_25 : decode cX7_motifStands 25 = .ok (.iload_n 2, 1) := by decide +kernel
theorem dX7_motifStands_26 : decode cX7_motifStands 26 = .ok (.invokestatic 71, 3) := by decide +kernel
theorem dX7_motifStands_29 : decode cX7_motifStands 29 = .ok (.aload_n 0, 1) := by decide +kernel
theorem dX7_motifStands_30 : decode cX7_motifStands 30 = .ok (.getfield 21, 3) := by decide +kernel
theorem dX7_motifStands_33 : decode cX7_motifStands 33 = .ok (.iload_n 1, 1) := by decide +kernel
theorem dX7_motifStands_34 : decode cX7_motifStands 34 = .ok (.iload_n 3, 1) := by decide +kernel
theorem dX7_motifStands_35 : decode cX7_motifStands 35 = .ok (.iadd, 1) := by decide +kernel
theorem dX7_motifStands_36 : decode cX7_motifStands 36 = .ok (.iaload, 1) := by decide +kernel
theorem dX7_motifStands_37 : decode cX7_motifStands 37 = .ok (.if_icmp .eq 5, 3) := by decide +kernel
theorem dX7_motifStands_40 : decode cX7_motifStands 40 = .ok (.iconst 0, 1) := by decide +kernel
theorem dX7_motifStands_41 : decode cX7_motifStands 41 = .ok (.ireturn, 1) := by decide +kernel
theorem dX7_motifStands_42 : decode cX7_motifStands 42 = .ok (.iinc 3 1, 3) := by decide +kernel
theorem dX7_motifStands_45 : decode cX7_motifStands 45 = .ok (.goto (-43), 3) := by decide +kernel
theorem dX7_motifStands_48 : decode cX7_motifStands 48 = .ok (.iconst 1, 1) := by decide +kernel
theorem dX7_motifStands_49 : decode cX7_motifStands 49 = .ok (.ireturn, 1) := by decide +kernel
theorem dX7_shifted_0 : decode cX7_shifted 0 = .ok (.iload_n 1, 1) := by decide +kernel
theorem dX7_shifted_1 : decode cX7_shifted 1 = .ok (.ifCond .lt 20, 3) := by decide +kernel
theorem dX7_shifted_4 : decode cX7_shifted 4 = .ok (.iload_n 0, 1) := by decide +kernel
theorem dX7_shifted_5 : decode cX7_shifted 5 = .ok (.iload_n 1, 1) := by decide +kernel
theorem dX7_shifted_6 : decode cX7_shifted 6 = .ok (.ishl, 1) := by decide +kernel
theorem dX7_shifted_7 : decode cX7_shifted 7 = .ok (.sipush 255, 3) := by decide +kernel
theorem dX7_shifted_10 : decode cX7_shifted 10 = .ok (.if_icmp .le 7, 3) := by decide +kernel
theorem dX7_shifted_13 : decode cX7_shifted 13 = .ok (.iconst (-1), 1) := by decide +kernel
theorem dX7_shifted_14 : decode cX7_shifted 14 = .ok (.goto 6, 3) := by decide +kernel
theorem dX7_shifted_17 : decode cX7_shifted 17 = .ok (.iload_n 0, 1) := by decide +kernel
theorem dX7_shifted_18 : decode cX7_shifted 18 = .ok (.iload_n 1, 1) := by decide +kernel
theorem dX7_shifted_19 : decode cX7_shifted 19 = .ok (.ishl, 1) := by decide +kernel
theorem dX7_shifted_20 : decode cX7_shifted 20 = .ok (.ireturn, 1) := by decide +kernel
theorem dX7_shifted_21 : decode cX7_shifted 21 = .ok (.iload_n 0, 1) := by decide +kernel
theorem dX7_shifted_22 : decode cX7_shifted 22 = .ok (.iload_n 1, 1) := by decide +kernel
theorem dX7_shifted_23 : decode cX7_shifted 23 = .ok (.ineg, 1) := by decide +kernel
theorem dX7_shifted_24 : decode cX7_shifted 24 = .ok (.ishr, 1) := by decide +kernel
theorem dX7_shifted_25 : decode cX7_shifted 25 = .ok (.iload_n 1, 1) := by decide +kernel
theorem dX7_shifted_26 : decode cX7_shifted 26 = .ok (.ineg, 1) := by decide +kernel
theorem dX7_shifted_27 : decode cX7_shifted 27 = .ok (.ishl, 1) := by decide +kernel
theorem dX7_shifted_28 : decode cX7_shifted 28 = .ok (.iload_n 0, 1) := by decide +kernel
theorem dX7_shifted_29 : decode cX7_shifted 29 = .ok (.if_icmp .eq 7, 3) := by decide +kernel
theorem dX7_shifted_32 : decode cX7_shifted 32 = .ok (.iconst (-1), 1) := by decide +kernel
theorem dX7_shifted_33 : decode cX7_shifted 33 = .ok (.goto 7, 3) := by decide +kernel
theorem dX7_shifted_36 : decode cX7_shifted 36 = .ok (.iload_n 0, 1) := by decide +kernel
theorem dX7_shifted_37 : decode cX7_shifted 37 = .ok (.iload_n 1, 1) := by decide +kernel
theorem dX7_shifted_38 : decode cX7_shifted 38 = .ok (.ineg, 1) := by decide +kernel
theorem dX7_shifted_39 : decode cX7_shifted 39 = .ok (.ishr, 1) := by decide +kernel
theorem dX7_shifted_40 : decode cX7_shifted 40 = .ok (.ireturn, 1) := by decide +kernel
