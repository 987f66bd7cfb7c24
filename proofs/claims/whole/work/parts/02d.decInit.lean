/-! decode rows -/
theorem dX0_init_0 : decode cX0_init 0 = .ok (.aload_n 0, 1) := by decide +kernel
theorem dX0_init_1 : decode cX0_init 1 = .ok (.invokespecial 3, 3) := by decide +kernel
theorem dX0_init_4 : decode cX0_init 4 = .ok (.aload_n 0, 1) := by decide +kernel
theorem dX0_init_5 : decode cX0_init 5 = .ok (.sipush 256, 3) := by decide +kernel
theorem dX0_init_8 : decode cX0_init 8 = .ok (.newarray .int, 2) := by decide +kernel
theorem dX0_init_10 : decode cX0_init 10 = .ok (.putfield 9, 3) := by decide +kernel
theorem dX0_init_13 : decode cX0_init 13 = .ok (.aload_n 0, 1) := by decide +kernel
theorem dX0_init_14 : decode cX0_init 14 = .ok (.sipush 256, 3) := by decide +kernel
theorem dX0_init_17 : decode cX0_init 17 = .ok (.newarray .int, 2) := by decide +kernel
theorem dX0_init_19 : decode cX0_init 19 = .ok (.putfield 15, 3) := by decide +kernel
theorem dX0_init_22 : decode cX0_init 22 = .ok (.aload_n 0, 1) := by decide +kernel
theorem dX0_init_23 : decode cX0_init 23 = .ok (.sipush 256, 3) := by decide +kernel
theorem dX0_init_26 : decode cX0_init 26 = .ok (.newarray .int, 2) := by decide +kernel
theorem dX0_init_28 : decode cX0_init 28 = .ok (.putfield 18, 3) := by decide +kernel
theorem dX0_init_31 : decode cX0_init 31 = .ok (.return_, 1) := by decide +kernel
theorem dX10_init_0 : decode cX10_init 0 = .ok (.aload_n 0, 1) := by decide +kernel
theorem dX10_init_1 : decode cX10_init 1 = .ok (.invokespecial 3, 3) := by decide +kernel
theorem dX10_init_4 : decode cX10_init 4 = .ok (.aload_n 0, 1) := by decide +kernel
theorem dX10_init_5 : decode cX10_init 5 = .ok (.new 9, 3) := by decide +kernel
theorem dX10_init_8 : decode cX10_init 8 = .ok (.dup, 1) := by decide +kernel
theorem dX10_init_9 : decode cX10_init 9 = .ok (.invokespecial 11, 3) := by decide +kernel
theorem dX10_init_12 : decode cX10_init 12 = .ok (.putfield 12, 3) := by decide +kernel
theorem dX10_init_15 : decode cX10_init 15 = .ok (.aload_n 0, 1) := by decide +kernel
theorem dX10_init_16 : decode cX10_init 16 = .ok (.new 9, 3) := by decide +kernel
theorem dX10_init_19 : decode cX10_init 19 = .ok (.dup, 1) := by decide +kernel
theorem dX10_init_20 : decode cX10_init 20 = .ok (.invokespecial 11, 3) := by decide +kernel
theorem dX10_init_23 : decode cX10_init 23 = .ok (.putfield 16, 3) := by decide +kernel
theorem dX10_init_26 : decode cX10_init 26 = .ok (.aload_n 0, 1) := by decide +kernel
theorem dX10_init_27 : decode cX10_init 27 = .ok (.new 9, 3) := by decide +kernel
theorem dX10_init_30 : decode cX10_init 30 = .ok (.dup, 1) := by decide +kernel
theorem dX10_init_31 : decode cX10_init 31 = .ok (.invokespecial 11, 3) := by decide +kernel
theorem dX10_init_34 : decode cX10_init 34 = .ok (.putfield 19, 3) := by decide +kernel
theorem dX10_init_37 : decode cX10_init 37 = .ok (.aload_n 0, 1) := by decide +kernel
theorem dX10_init_38 : decode cX10_init 38 = .ok (.iconst 2, 1) := by decide +kernel
theorem dX10_init_39 : decode cX10_init 39 = .ok (.anewarray 9, 3) := by decide +kernel
theorem dX10_init_42 : decode cX10_init 42 = .ok (.putfield 22, 3) := by decide +kernel
theorem dX10_init_45 : decode cX10_init 45 = .ok (.aload_n 0, 1) := by decide +kernel
theorem dX10_init_46 : decode cX10_init 46 = .ok (.iconst 2, 1) := by decide +kernel
theorem dX10_init_47 : decode cX10_init 47 = .ok (.newarray .boolean, 2) := by decide +kernel
theorem dX10_init_49 : decode cX10_init 49 = .ok (.putfield 26, 3) := by decide +kernel
theorem dX10_init_52 : decode cX10_init 52 = .ok (.aload_n 0, 1) := by decide +kernel
theorem dX10_init_53 : decode cX10_init 53 = .ok (.new 30, 3) := by decide +kernel
theorem dX10_init_56 : decode cX10_init 56 = .ok (.dup, 1) := by decide +kernel
theorem dX10_init_57 : decode cX10_init 57 = .ok (.invokespecial 32, 3) := by decide +kernel
theorem dX10_init_60 : decode cX10_init 60 = .ok (.putfield 33, 3) := by decide +kernel
theorem dX10_init_63 : decode cX10_init 63 = .ok (.aload_n 0, 1) := by decide +kernel
theorem dX10_init_64 : decode cX10_init 64 = .ok (.new 37, 3) := by decide +kernel
theorem dX10_init_67 : decode cX10_init 67 = .ok (.dup, 1) := by decide +kernel
theorem dX10_init_68 : decode cX10_init 68 = .ok (.aload_n 0, 1) := by decide +kernel
theorem dX10_init_69 : decode cX10_init 69 = .ok (.getfield 33, 3) := by decide +kernel
theorem dX10_init_72 : decode cX10_init 72 = .ok (.invokespecial 39, 3) := by decide +kernel
theorem dX10_init_75 : decode cX10_init 75 = .ok (.putfield 42, 3) := by decide +kernel
theorem dX10_init_78 : decode cX10_init 78 = .ok (.aload_n 0, 1) := by decide +kernel
theorem dX10_init_79 : decode cX10_init 79 = .ok (.new 46, 3) := by decide +kernel
theorem dX10_init_82 : decode cX10_init 82 = .ok (.dup, 1) := by decide +kernel
theorem dX10_init_83 : decode cX10_init 83 = .ok (.invokespecial 48, 3) := by decide +kernel
theorem dX10_init_86 : decode cX10_init 86 = .ok (.putfield 49, 3) := by decide +kernel
theorem dX10_init_89 : decode cX10_init 89 = .ok (.aload_n 0, 1) := by decide +kernel
theorem dX10_init_90 : decode cX10_init 90 = .ok (.new 53, 3) := by decide +kernel
theorem dX10_init_93 : decode cX10_init 93 = .ok (.dup, 1) := by decide +kernel
theorem dX10_init_94 : decode cX10_init 94 = .ok (.aload_n 0, 1) := by decide +kernel
theorem dX10_init_95 : decode cX10_init 95 = .ok (.getfield 49, 3) := by decide +kernel
theorem dX10_init_98 : decode cX10_init 98 = .ok (.invokespecial 55, 3) := by decide +kernel
theorem dX10_init_101 : decode cX10_init 101 = .ok (.putfield 58, 3) := by decide +kernel
theorem dX10_init_104 : decode cX10_init 104 = .ok (.aload_n 0, 1) := by decide +kernel
theorem dX10_init_105 : decode cX10_init 105 = .ok (.new 62, 3) := by decide +kernel
theorem dX10_init_108 : decode cX10_init 108 = .ok (.dup, 1) := by decide +kernel
theorem dX10_init_109 : decode cX10_init 109 = .ok (.invokespecial 64, 3) := by decide +kernel
theorem dX10_init_112 : decode cX10_init 112 = .ok (.putfield 65, 3) := by decide +kernel
theorem dX10_init_115 : decode cX10_init 115 = .ok (.aload_n 0, 1) := by decide +kernel
theorem dX10_init_116 : decode cX10_init 116 = .ok (.new 69, 3) := by decide +kernel
theorem dX10_init_119 : decode cX10_init 119 = .ok (.dup, 1) := by decide +kernel
theorem dX10_init_120 : decode cX10_init 120 = .ok (.invokespecial 71, 3) := by decide +kernel
theorem dX10_init_123 : decode cX10_init 123 = .ok (.putfield 72, 3) := by decide +kernel
theorem dX10_init_126 : decode cX10_init 126 = .ok (.aload_n 0, 1) := by decide +kernel
theorem dX10_init_127 : decode cX10_init 127 = .ok (.new 76, 3) := by decide +kernel
theorem dX10_init_130 : decode cX10_init 130 = .ok (.dup, 1) := by decide +kernel
theorem dX10_init_131 : decode cX10_init 131 = .ok (.invokespecial 78, 3) := by decide +kernel
theorem dX10_init_134 : decode cX10_init 134 = .ok (.putfield 79, 3) := by decide +kernel
theorem dX10_init_137 : decode cX10_init 137 = .ok (.aload_n 0, 1) := by decide +kernel
theorem dX10_init_138 : decode cX10_init 138 = .ok (.bipush 20, 2) := by decide +kernel
theorem dX10_init_140 : decode cX10_init 140 = .ok (.newarray .long, 2) := by decide +kernel
theorem dX10_init_142 : decode cX10_init 142 = .ok (.putfield 83, 3) := by decide +kernel
theorem dX10_init_145 : decode cX10_init 145 = .ok (.aload_n 0, 1) := by decide +kernel
theorem dX10_init_146 : decode cX10_init 146 = .ok (.iconst 5, 1) := by decide +kernel
theorem dX10_init_147 : decode cX10_init 147 = .ok (.newarray .int, 2) := by decide +kernel
theorem dX10_init_149 : decode cX10_init 149 = .ok (.putfield 87, 3) := by decide +kernel
theorem dX10_init_152 : decode cX10_init 152 = .ok (.iconst 0, 1) := by decide +kernel
theorem dX10_init_153 : decode cX10_init 153 = .ok (.istore_n 1, 1) := by decide +kernel
theorem dX10_init_154 : decode cX10_init 154 = .ok (.iload_n 1, 1) := by decide +kernel
theorem dX10_init_155 : decode cX10_init 155 = .ok (.iconst 2, 1) := by decide +kernel
theorem dX10_init_156 : decode cX10_init 156 = .ok (.if_icmp .ge 22, 3) := by decide +kernel
theorem dX10_init_159 : decode cX10_init 159 = .ok (.aload_n 0, 1) := by decide +kernel
theorem dX10_init_160 : decode cX10_init 160 = .ok (.getfield 22, 3) := by decide +kernel
theorem dX10_init_163 : decode cX10_init 163 = .ok (.iload_n 1, 1) := by decide +kernel
theorem dX10_init_164 : decode cX10_init 164 = .ok (.new 9, 3) := by decide +kernel
theorem dX10_init_167 : decode cX10_init 167 = .ok (.dup, 1) := by decide +kernel
theorem dX10_init_168 : decode cX10_init 168 = .ok (.invokespecial 11, 3) := by decide +kernel
theorem dX10_init_171 : decode cX10_init 171 = .ok (.aastore, 1) := by decide +kernel
theorem dX10_init_172 : decode cX10_init 172 = .ok (.iinc 1 1, 3) := by decide +kernel
theorem dX10_init_175 : decode cX10_init 175 = .ok (.goto (-21), 3) := by decide +kernel
theorem dX10_init_178 : decode cX10_init 178 = .ok (.return_, 1) := by decide +kernel
theorem dX11_init_0 : decode cX11_init 0 = .ok (.aload_n 0, 1) := by decide +kernel
theorem dX11_init_1 : decode cX11_init 1 = .ok (.invokespecial 22, 3) := by decide +kernel
theorem dX11_init_4 : decode cX11_init 4 = .ok (.aload_n 0, 1) := by decide +kernel
theorem dX11_init_5 : decode cX11_init 5 = .ok (.bipush 7, 2) := by decide +kernel
theorem dX11_init_7 : decode cX11_init 7 = .ok (.newarray .int, 2) := by decide +kernel
theorem dX11_init_9 : decode cX11_init 9 = .ok (.putfield 7, 3) := by decide +kernel
theorem dX11_init_12 : decode cX11_init 12 = .ok (.aload_n 0, 1) := by decide +kernel
theorem dX11_init_13 : decode cX11_init 13 = .ok (.sipush 5656, 3) := by decide +kernel
theorem dX11_init_16 : decode cX11_init 16 = .ok (.newarray .int, 2) := by decide +kernel
theorem dX11_init_18 : decode cX11_init 18 = .ok (.putfield 28, 3) := by decide +kernel
theorem dX11_init_21 : decode cX11_init 21 = .ok (.aload_n 0, 1) := by decide +kernel
theorem dX11_init_22 : decode cX11_init 22 = .ok (.sipush 11312, 3) := by decide +kernel
theorem dX11_init_25 : decode cX11_init 25 = .ok (.newarray .int, 2) := by decide +kernel
theorem dX11_init_27 : decode cX11_init 27 = .ok (.putfield 31, 3) := by decide +kernel
theorem dX11_init_30 : decode cX11_init 30 = .ok (.aload_n 0, 1) := by decide +kernel
theorem dX11_init_31 : decode cX11_init 31 = .ok (.iconst 2, 1) := by decide +kernel
theorem dX11_init_32 : decode cX11_init 32 = .ok (.newarray .boolean, 2) := by decide +kernel
theorem dX11_init_34 : decode cX11_init 34 = .ok (.putfield 34, 3) := by decide +kernel
theorem dX11_init_37 : decode cX11_init 37 = .ok (.aload_n 0, 1) := by decide +kernel
theorem dX11_init_38 : decode cX11_init 38 = .ok (.bipush 50, 2) := by decide +kernel
theorem dX11_init_40 : decode cX11_init 40 = .ok (.newarray .int, 2) := by decide +kernel
theorem dX11_init_42 : decode cX11_init 42 = .ok (.putfield 38, 3) := by decide +kernel
theorem dX11_init_45 : decode cX11_init 45 = .ok (.aload_n 0, 1) := by decide +kernel
theorem dX11_init_46 : decode cX11_init 46 = .ok (.sipush 136, 3) := by decide +kernel
theorem dX11_init_49 : decode cX11_init 49 = .ok (.newarray .byte, 2) := by decide +kernel
theorem dX11_init_51 : decode cX11_init 51 = .ok (.dup, 1) := by decide +kernel
theorem dX11_init_52 : decode cX11_init 52 = .ok (.iconst 0, 1) := by decide +kernel
theorem dX11_init_53 : decode cX11_init 53 = .ok (.bipush 109, 2) := by decide +kernel
theorem dX11_init_55 : decode cX11_init 55 = .ok (.bastore, 1) := by decide +kernel
theorem dX11_init_56 : decode cX11_init 56 = .ok (.dup, 1) := by decide +kernel
theorem dX11_init_57 : decode cX11_init 57 = .ok (.iconst 1, 1) := by decide +kernel
theorem dX11_init_58 : decode cX11_init 58 = .ok (.bipush 105, 2) := by decide +kernel
theorem dX11_init_60 : decode cX11_init 60 = .ok (.bastore, 1) := by decide +kernel
theorem dX11_init_61 : decode cX11_init 61 = .ok (.dup, 1) := by decide +kernel
theorem dX11_init_62 : decode cX11_init 62 = .ok (.iconst 2, 1) := by decide +kernel
theorem dX11_init_63 : decode cX11_init 63 = .ok (.bipush 110, 2) := by decide +kernel
theorem dX11_init_65 : decode cX11_init 65 = .ok (.bastore, 1) := by decide +kernel
theorem dX11_init_66 : decode cX11_init 66 = .ok (.dup, 1) := by decide +kernel
theorem dX11_init_67 : decode cX11_init 67 = .ok (.iconst 3, 1) := by decide +kernel
theorem dX11_init_68 : decode cX11_init 68 = .ok (.bipush 100, 2) := by decide +kernel
theorem dX11_init_70 : decode cX11_init 70 = .ok (.bastore, 1) := by decide +kernel
theorem dX11_init_71 : decode cX11_init 71 = .ok (.dup, 1) := by decide +kernel
theorem dX11_init_72 : decode cX11_init 72 = .ok (.iconst 4, 1) := by decide +kernel
theorem dX11_init_73 : decode cX11_init 73 = .ok (.bipush 115, 2) := by decide +kernel
theorem dX11_init_75 : decode cX11_init 75 = .ok (.bastore, 1) := by decide +kernel
theorem dX11_init_76 : decode cX11_init 76 = .ok (.dup, 1) := by decide +kernel
theorem dX11_init_77 : decode cX11_init 77 = .ok (.iconst 5, 1) := by decide +kernel
theorem dX11_init_78 : decode cX11_init 78 = .ok (.bipush 32, 2) := by decide +kernel
theorem dX11_init_80 : decode cX11_init 80 = .ok (.bastore, 1) := by decide +kernel
theorem dX11_init_81 : decode cX11_init 81 = .ok (.dup, 1) := by decide +kernel
theorem dX11_init_82 : decode cX11_init 82 = .ok (.bipush 6, 2) := by decide +kernel
theorem dX11_init_84 : decode cX11_init 84 = .ok (.bipush 108, 2) := by decide +kernel
theorem dX11_init_86 : decode cX11_init 86 = .ok (.bastore, 1) := by decide +kernel
theorem dX11_init_87 : decode cX11_init 87 = .ok (.dup, 1) := by decide +kernel
theorem dX11_init_88 : decode cX11_init 88 = .ok (.bipush 7, 2) := by decide +kernel
theorem dX11_init_90 : decode cX11_init 90 = .ok (.bipush 101, 2) := by decide +kernel
theorem dX11_init_92 : decode cX11_init 92 = .ok (.bastore, 1) := by decide +kernel
theorem dX11_init_93 : decode cX11_init 93 = .ok (.dup, 1) := by decide +kernel
theorem dX11_init_94 : decode cX11_init 94 = .ok (.bipush 8, 2) := by decide +kernel
theorem dX11_init_96 : decode cX11_init 96 = .ok (.bipush 110, 2) := by decide +kernel
theorem dX11_init_98 : decode cX11_init 98 = .ok (.bastore, 1) := by decide +kernel
theorem dX11_init_99 : decode cX11_init 99 = .ok (.dup, 1) := by decide +kernel
theorem dX11_init_100 : decode cX11_init 100 = .ok (.bipush 9, 2) := by decide +kernel
theorem dX11_init_102 : decode cX11_init 102 = .ok (.bipush 100, 2) := by decide +kernel
theorem dX11_init_104 : decode cX11_init 104 = .ok (.bastore, 1) := by decide +kernel
theorem dX11_init_105 : decode cX11_init 105 = .ok (.dup, 1) := by decide +kernel
theorem dX11_init_106 : decode cX11_init 106 = .ok (.bipush 10, 2) := by decide +kernel
theorem dX11_init_108 : decode cX11_init 108 = .ok (.bipush 115, 2) := by decide +kernel
theorem dX11_init_110 : decode cX11_init 110 = .ok (.bastore, 1) := by decide +kernel
theorem dX11_init_111 : decode cX11_init 111 = .ok (.dup, 1) := by decide +kernel
theorem dX11_init_112 : decode cX11_init 112 = .ok (.bipush 11, 2) := by decide +kernel
theorem dX11_init_114 : decode cX11_init 114 = .ok (.bipush 32, 2) := by decide +kernel
theorem dX11_init_116 : decode cX11_init 116 = .ok (.bastore, 1) := by decide +kernel
theorem dX11_init_117 : decode cX11_init 117 = .ok (.dup, 1) := by decide +kernel
theorem dX11_init_118 : decode cX11_init 118 = .ok (.bipush 12, 2) := by decide +kernel
theorem dX11_init_120 : decode cX11_init 120 = .ok (.bipush 98, 2) := by decide +kernel
theorem dX11_init_122 : decode cX11_init 122 = .ok (.bastore, 1) := by decide +kernel
theorem dX11_init_123 : decode cX11_init 123 = .ok (.dup, 1) := by decide +kernel
theorem dX11_init_124 : decode cX11_init 124 = .ok (.bipush 13, 2) := by decide +kernel
theorem dX11_init_126 : decode cX11_init 126 = .ok (.bipush 97, 2) := by decide +kernel
theorem dX11_init_128 : decode cX11_init 128 = .ok (.bastore, 1) := by decide +kernel
theorem dX11_init_129 : decode cX11_init 129 = .ok (.dup, 1) := by decide +kernel
theorem dX11_init_130 : decode cX11_init 130 = .ok (.bipush 14, 2) := by decide +kernel
theorem dX11_init_132 : decode cX11_init 132 = .ok (.bipush 114, 2) := by decide +kernel
theorem dX11_init_134 : decode cX11_init 134 = .ok (.bastore, 1) := by decide +kernel
theorem dX11_init_135 : decode cX11_init 135 = .ok (.dup, 1) := by decide +kernel
theorem dX11_init_136 : decode cX11_init 136 = .ok (.bipush 15, 2) := by decide +kernel
theorem dX11_init_138 : decode cX11_init 138 = .ok (.bipush 115, 2) := by decide +kernel
theorem dX11_init_140 : decode cX11_init 140 = .ok (.bastore, 1) := by decide +kernel
theorem dX11_init_141 : decode cX11_init 141 = .ok (.dup, 1) := by decide +kernel
theorem dX11_init_142 : decode cX11_init 142 = .ok (.bipush 16, 2) := by decide +kernel
theorem dX11_init_144 : decode cX11_init 144 = .ok (.bipush 32, 2) := by decide +kernel
theorem dX11_init_146 : decode cX11_init 146 = .ok (.bastore, 1) := by decide +kernel
theorem dX11_init_147 : decode cX11_init 147 = .ok (.dup, 1) := by decide +kernel
theorem dX11_init_148 : decode cX11_init 148 = .ok (.bipush 17, 2) := by decide +kernel
theorem dX11_init_150 : decode cX11_init 150 = .ok (.bipush 105, 2) := by decide +kernel
theorem dX11_init_152 : decode cX11_init 152 = .ok (.bastore, 1) := by decide +kernel
theorem dX11_init_153 : decode cX11_init 153 = .ok (.dup, 1) := by decide +kernel
theorem dX11_init_154 : decode cX11_init 154 = .ok (.bipush 18, 2) := by decide +kernel
theorem dX11_init_156 : decode cX11_init 156 = .ok (.bipush 102, 2) := by decide +kernel
theorem dX11_init_158 : decode cX11_init 158 = .ok (.bastore, 1) := by decide +kernel
theorem dX11_init_159 : decode cX11_init 159 = .ok (.dup, 1) := by decide +kernel
theorem dX11_init_160 : decode cX11_init 160 = .ok (.bipush 19, 2) := by decide +kernel
theorem dX11_init_162 : decode cX11_init 162 = .ok (.bipush 32, 2) := by decide +kernel
theorem dX11_init_164 : decode cX11_init 164 = .ok (.bastore, 1) := by decide +kernel
theorem dX11_init_165 : decode cX11_init 165 = .ok (.dup, 1) := by decide +kernel
theorem dX11_init_166 : decode cX11_init 166 = .ok (.bipush 20, 2) := by decide +kernel
theorem dX11_init_168 : decode cX11_init 168 = .ok (.bipush 111, 2) := by decide +kernel
theorem dX11_init_170 : decode cX11_init 170 = .ok (.bastore, 1) := by decide +kernel
theorem dX11_init_171 : decode cX11_init 171 = .ok (.dup, 1) := by decide +kernel
theorem dX11_init_172 : decode cX11_init 172 = .ok (.bipush 21, 2) := by decide +kernel
theorem dX11_init_174 : decode cX11_init 174 = .ok (.bipush 114, 2) := by decide +kernel
theorem dX11_init_176 : decode cX11_init 176 = .ok (.bastore, 1) := by decide +kernel
theorem dX11_init_177 : decode cX11_init 177 = .ok (.dup, 1) := by decide +kernel
theorem dX11_init_178 : decode cX11_init 178 = .ok (.bipush 22, 2) := by decide +kernel
theorem dX11_init_180 : decode cX11_init 180 = .ok (.bipush 32, 2) := by decide +kernel
theorem dX11_init_182 : decode cX11_init 182 = .ok (.bastore, 1) := by decide +kernel
theorem dX11_init_183 : decode cX11_init 183 = .ok (.dup, 1) := by decide +kernel
theorem dX11_init_184 : decode cX11_init 184 = .ok (.bipush 23, 2) := by decide +kernel
theorem dX11_init_186 : decode cX11_init 186 = .ok (.bipush 97, 2) := by decide +kernel
theorem dX11_init_188 : decode cX11_init 188 = .ok (.bastore, 1) := by decide +kernel
theorem dX11_init_189 : decode cX11_init 189 = .ok (.dup, 1) := by decide +kernel
theorem dX11_init_190 : decode cX11_init 190 = .ok (.bipush 24, 2) := by decide +kernel
theorem dX11_init_192 : decode cX11_init 192 = .ok (.bipush 110, 2) := by decide +kernel
theorem dX11_init_194 : decode cX11_init 194 = .ok (.bastore, 1) := by decide +kernel
theorem dX11_init_195 : decode cX11_init 195 = .ok (.dup, 1) := by decide +kernel
theorem dX11_init_196 : decode cX11_init 196 = .ok (.bipush 25, 2) := by decide +kernel
theorem dX11_init_198 : decode cX11_init 198 = .ok (.bipush 100, 2) := by decide +kernel
theorem dX11_init_200 : decode cX11_init 200 = .ok (.bastore, 1) := by decide +kernel
theorem dX11_init_201 : decode cX11_init 201 = .ok (.dup, 1) := by decide +kernel
theorem dX11_init_202 : decode cX11_init 202 = .ok (.bipush 26, 2) := by decide +kernel
theorem dX11_init_204 : decode cX11_init 204 = .ok (.bipush 32, 2) := by decide +kernel
theorem dX11_init_206 : decode cX11_init 206 = .ok (.bastore, 1) := by decide +kernel
theorem dX11_init_207 : decode cX11_init 207 = .ok (.dup, 1) := by decide +kernel
theorem dX11_init_208 : decode cX11_init 208 = .ok (.bipush 27, 2) := by decide +kernel
theorem dX11_init_210 : decode cX11_init 210 = .ok (.bipush 110, 2) := by decide +kernel
theorem dX11_init_212 : decode cX11_init 212 = .ok (.bastore, 1) := by decide +kernel
theorem dX11_init_213 : decode cX11_init 213 = .ok (.dup, 1) := by decide +kernel
theorem dX11_init_214 : decode cX11_init 214 = .ok (.bipush 28, 2) := by decide +kernel
theorem dX11_init_216 : decode cX11_init 216 = .ok (.bipush 111, 2) := by decide +kernel
theorem dX11_init_218 : decode cX11_init 218 = .ok (.bastore, 1) := by decide +kernel
theorem dX11_init_219 : decode cX11_init 219 = .ok (.dup, 1) := by decide +kernel
theorem dX11_init_220 : decode cX11_init 220 = .ok (.bipush 29, 2) := by decide +kernel
theorem dX11_init_222 : decode cX11_init 222 = .ok (.bipush 116, 2) := by decide +kernel
theorem dX11_init_224 : decode cX11_init 224 = .ok (.bastore, 1) := by decide +kernel
theorem dX11_init_225 : decode cX11_init 225 = .ok (.dup, 1) := by decide +kernel
theorem dX11_init_226 : decode cX11_init 226 = .ok (.bipush 30, 2) := by decide +kernel
theorem dX11_init_228 : decode cX11_init 228 = .ok (.bipush 32, 2) := by decide +kernel
theorem dX11_init_230 : decode cX11_init 230 = .ok (.bastore, 1) := by decide +kernel
theorem dX11_init_231 : decode cX11_init 231 = .ok (.dup, 1) := by decide +kernel
theorem dX11_init_232 : decode cX11_init 232 = .ok (.bipush 31, 2) := by decide +kernel
theorem dX11_init_234 : decode cX11_init 234 = .ok (.bipush 104, 2) := by decide +kernel
theorem dX11_init_236 : decode cX11_init 236 = .ok (.bastore, 1) := by decide +kernel
theorem dX11_init_237 : decode cX11_init 237 = .ok (.dup, 1) := by decide +kernel
theorem dX11_init_238 : decode cX11_init 238 = .ok (.bipush 32, 2) := by decide +kernel
theorem dX11_init_240 : decode cX11_init 240 = .ok (.bipush 111, 2) := by decide +kernel
theorem dX11_init_242 : decode cX11_init 242 = .ok (.bastore, 1) := by decide +kernel
theorem dX11_init_243 : decode cX11_init 243 = .ok (.dup, 1) := by decide +kernel
theorem dX11_init_244 : decode cX11_init 244 = .ok (.bipush 33, 2) := by decide +kernel
theorem dX11_init_246 : decode cX11_init 246 = .ok (.bipush 117, 2) := by decide +kernel
theorem dX11_init_248 : decode cX11_init 248 = .ok (.bastore, 1) := by decide +kernel
theorem dX11_init_249 : decode cX11_init 249 = .ok (.dup, 1) := by decide +kernel
theorem dX11_init_250 : decode cX11_init 250 = .ok (.bipush 34, 2) := by decide +kernel
theorem dX11_init_252 : decode cX11_init 252 = .ok (.bipush 115, 2) := by decide +kernel
theorem dX11_init_254 : decode cX11_init 254 = .ok (.bastore, 1) := by decide +kernel
theorem dX11_init_255 : decode cX11_init 255 = .ok (.dup, 1) := by decide +kernel
theorem dX11_init_256 : decode cX11_init 256 = .ok (.bipush 35, 2) := by decide +kernel
theorem dX11_init_258 : decode cX11_init 258 = .ok (.bipush 101, 2) := by decide +kernel
theorem dX11_init_260 : decode cX11_init 260 = .ok (.bastore, 1) := by decide +kernel
theorem dX11_init_261 : decode cX11_init 261 = .ok (.dup, 1) := by decide +kernel
theorem dX11_init_262 : decode cX11_init 262 = .ok (.bipush 36, 2) := by decide +kernel
theorem dX11_init_264 : decode cX11_init 264 = .ok (.bipush 32, 2) := by decide +kernel
theorem dX11_init_266 : decode cX11_init 266 = .ok (.bastore, 1) := by decide +kernel
theorem dX11_init_267 : decode cX11_init 267 = .ok (.dup, 1) := by decide +kernel
theorem dX11_init_268 : decode cX11_init 268 = .ok (.bipush 37, 2) := by decide +kernel
theorem dX11_init_270 : decode cX11_init 270 = .ok (.bipush 107, 2) := by decide +kernel
theorem dX11_init_272 : decode cX11_init 272 = .ok (.bastore, 1) := by decide +kernel
theorem dX11_init_273 : decode cX11_init 273 = .ok (.dup, 1) := by decide +kernel
theorem dX11_init_274 : decode cX11_init 274 = .ok (.bipush 38, 2) := by decide +kernel
theorem dX11_init_276 : decode cX11_init 276 = .ok (.bipush 101, 2) := by decide +kernel
theorem dX11_init_278 : decode cX11_init 278 = .ok (.bastore, 1) := by decide +kernel
theorem dX11_init_279 : decode cX11_init 279 = .ok (.dup, 1) := by decide +kernel
theorem dX11_init_280 : decode cX11_init 280 = .ok (.bipush 39, 2) := by decide +kernel
theorem dX11_init_282 : decode cX11_init 282 = .ok (.bipush 121, 2) := by decide +kernel
theorem dX11_init_284 : decode cX11_init 284 = .ok (.bastore, 1) := by decide +kernel
theorem dX11_init_285 : decode cX11_init 285 = .ok (.dup, 1) := by decide +kernel
theorem dX11_init_286 : decode cX11_init 286 = .ok (.bipush 40, 2) := by decide +kernel
theorem dX11_init_288 : decode cX11_init 288 = .ok (.bipush 32, 2) := by decide +kernel
theorem dX11_init_290 : decode cX11_init 290 = .ok (.bastore, 1) := by decide +kernel
theorem dX11_init_291 : decode cX11_init 291 = .ok (.dup, 1) := by decide +kernel
theorem dX11_init_292 : decode cX11_init 292 = .ok (.bipush 41, 2) := by decide +kernel
theorem dX11_init_294 : decode cX11_init 294 = .ok (.bipush 98, 2) := by decide +kernel
theorem dX11_init_296 : decode cX11_init 296 = .ok (.bastore, 1) := by decide +kernel
theorem dX11_init_297 : decode cX11_init 297 = .ok (.dup, 1) := by decide +kernel
theorem dX11_init_298 : decode cX11_init 298 = .ok (.bipush 42, 2) := by decide +kernel
theorem dX11_init_300 : decode cX11_init 300 = .ok (.bipush 101, 2) := by decide +kernel
theorem dX11_init_302 : decode cX11_init 302 = .ok (.bastore, 1) := by decide +kernel
theorem dX11_init_303 : decode cX11_init 303 = .ok (.dup, 1) := by decide +kernel
theorem dX11_init_304 : decode cX11_init 304 = .ok (.bipush 43, 2) := by decide +kernel
theorem dX11_init_306 : decode cX11_init 306 = .ok (.bipush 97, 2) := by decide +kernel
theorem dX11_init_308 : decode cX11_init 308 = .ok (.bastore, 1) := by decide +kernel
theorem dX11_init_309 : decode cX11_init 309 = .ok (.dup, 1) := by decide +kernel
theorem dX11_init_310 : decode cX11_init 310 = .ok (.bipush 44, 2) := by decide +kernel
theorem dX11_init_312 : decode cX11_init 312 = .ok (.bipush 116, 2) := by decide +kernel
theorem dX11_init_314 : decode cX11_init 314 = .ok (.bastore, 1) := by decide +kernel
theorem dX11_init_315 : decode cX11_init 315 = .ok (.dup, 1) := by decide +kernel
theorem dX11_init_316 : decode cX11_init 316 = .ok (.bipush 45, 2) := by decide +kernel
theorem dX11_init_318 : decode cX11_init 318 = .ok (.bipush 32, 2) := by decide +kernel
theorem dX11_init_320 : decode cX11_init 320 = .ok (.bastore, 1) := by decide +kernel
theorem dX11_init_321 : decode cX11_init 321 = .ok (.dup, 1) := by decide +kernel
theorem dX11_init_322 : decode cX11_init 322 = .ok (.bipush 46, 2) := by decide +kernel
theorem dX11_init_324 : decode cX11_init 324 = .ok (.bipush 104, 2) := by decide +kernel
theorem dX11_init_326 : decode cX11_init 326 = .ok (.bastore, 1) := by decide +kernel
theorem dX11_init_327 : decode cX11_init 327 = .ok (.dup, 1) := by decide +kernel
theorem dX11_init_328 : decode cX11_init 328 = .ok (.bipush 47, 2) := by decide +kernel
theorem dX11_init_330 : decode cX11_init 330 = .ok (.bipush 97, 2) := by decide +kernel
theorem dX11_init_332 : decode cX11_init 332 = .ok (.bastore, 1) := by decide +kernel
theorem dX11_init_333 : decode cX11_init 333 = .ok (.dup, 1) := by decide +kernel
theorem dX11_init_334 : decode cX11_init 334 = .ok (.bipush 48, 2) := by decide +kernel
theorem dX11_init_336 : decode cX11_init 336 = .ok (.bipush 110, 2) := by decide +kernel
theorem dX11_init_338 : decode cX11_init 338 = .ok (.bastore, 1) := by decide +kernel
theorem dX11_init_339 : decode cX11_init 339 = .ok (.dup, 1) := by decide +kernel
theorem dX11_init_340 : decode cX11_init 340 = .ok (.bipush 49, 2) := by decide +kernel
theorem dX11_init_342 : decode cX11_init 342 = .ok (.bipush 100, 2) := by decide +kernel
theorem dX11_init_344 : decode cX11_init 344 = .ok (.bastore, 1) := by decide +kernel
theorem dX11_init_345 : decode cX11_init 345 = .ok (.dup, 1) := by decide +kernel
theorem dX11_init_346 : decode cX11_init 346 = .ok (.bipush 50, 2) := by decide +kernel
theorem dX11_init_348 : decode cX11_init 348 = .ok (.bipush 115, 2) := by decide +kernel
theorem dX11_init_350 : decode cX11_init 350 = .ok (.bastore, 1) := by decide +kernel
theorem dX11_init_351 : decode cX11_init 351 = .ok (.dup, 1) := by decide +kernel
theorem dX11_init_352 : decode cX11_init 352 = .ok (.bipush 51, 2) := by decide +kernel
theorem dX11_init_354 : decode cX11_init 354 = .ok (.bipush 32, 2) := by decide +kernel
theorem dX11_init_356 : decode cX11_init 356 = .ok (.bastore, 1) := by decide +kernel
theorem dX11_init_357 : decode cX11_init 357 = .ok (.dup, 1) := by decide +kernel
theorem dX11_init_358 : decode cX11_init 358 = .ok (.bipush 52, 2) := by decide +kernel
theorem dX11_init_360 : decode cX11_init 360 = .ok (.bipush 114, 2) := by decide +kernel
theorem dX11_init_362 : decode cX11_init 362 = .ok (.bastore, 1) := by decide +kernel
theorem dX11_init_363 : decode cX11_init 363 = .ok (.dup, 1) := by decide +kernel
theorem dX11_init_364 : decode cX11_init 364 = .ok (.bipush 53, 2) := by decide +kernel
theorem dX11_init_366 : decode cX11_init 366 = .ok (.bipush 101, 2) := by decide +kernel
theorem dX11_init_368 : decode cX11_init 368 = .ok (.bastore, 1) := by decide +kernel
theorem dX11_init_369 : decode cX11_init 369 = .ok (.dup, 1) := by decide +kernel
theorem dX11_init_370 : decode cX11_init 370 = .ok (.bipush 54, 2) := by decide +kernel
theorem dX11_init_372 : decode cX11_init 372 = .ok (.bipush 97, 2) := by decide +kernel
theorem dX11_init_374 : decode cX11_init 374 = .ok (.bastore, 1) := by decide +kernel
theorem dX11_init_375 : decode cX11_init 375 = .ok (.dup, 1) := by decide +kernel
theorem dX11_init_376 : decode cX11_init 376 = .ok (.bipush 55, 2) := by decide +kernel
theorem dX11_init_378 : decode cX11_init 378 = .ok (.bipush 99, 2) := by decide +kernel
theorem dX11_init_380 : decode cX11_init 380 = .ok (.bastore, 1) := by decide +kernel
theorem dX11_init_381 : decode cX11_init 381 = .ok (.dup, 1) := by decide +kernel
theorem dX11_init_382 : decode cX11_init 382 = .ok (.bipush 56, 2) := by decide +kernel
theorem dX11_init_384 : decode cX11_init 384 = .ok (.bipush 104, 2) := by decide +kernel
theorem dX11_init_386 : decode cX11_init 386 = .ok (.bastore, 1) := by decide +kernel
theorem dX11_init_387 : decode cX11_init 387 = .ok (.dup, 1) := by decide +kernel
theorem dX11_init_388 : decode cX11_init 388 = .ok (.bipush 57, 2) := by decide +kernel
theorem dX11_init_390 : decode cX11_init 390 = .ok (.bipush 32, 2) := by decide +kernel
theorem dX11_init_392 : decode cX11_init 392 = .ok (.bastore, 1) := by decide +kernel
theorem dX11_init_393 : decode cX11_init 393 = .ok (.dup, 1) := by decide +kernel
theorem dX11_init_394 : decode cX11_init 394 = .ok (.bipush 58, 2) := by decide +kernel
theorem dX11_init_396 : decode cX11_init 396 = .ok (.bipush 109, 2) := by decide +kernel
theorem dX11_init_398 : decode cX11_init 398 = .ok (.bastore, 1) := by decide +kernel
theorem dX11_init_399 : decode cX11_init 399 = .ok (.dup, 1) := by decide +kernel
theorem dX11_init_400 : decode cX11_init 400 = .ok (.bipush 59, 2) := by decide +kernel
theorem dX11_init_402 : decode cX11_init 402 = .ok (.bipush 111, 2) := by decide +kernel
theorem dX11_init_404 : decode cX11_init 404 = .ok (.bastore, 1) := by decide +kernel
theorem dX11_init_405 : decode cX11_init 405 = .ok (.dup, 1) := by decide +kernel
theorem dX11_init_406 : decode cX11_init 406 = .ok (.bipush 60, 2) := by decide +kernel
theorem dX11_init_408 : decode cX11_init 408 = .ok (.bipush 111, 2) := by decide +kernel
theorem dX11_init_410 : decode cX11_init 410 = .ok (.bastore, 1) := by decide +kernel
theorem dX11_init_411 : decode cX11_init 411 = .ok (.dup, 1) := by decide +kernel
theorem dX11_init_412 : decode cX11_init 412 = .ok (.bipush 61, 2) := by decide +kernel
theorem dX11_init_414 : decode cX11_init 414 = .ok (.bipush 100, 2) := by decide +kernel
theorem dX11_init_416 : decode cX11_init 416 = .ok (.bastore, 1) := by decide +kernel
theorem dX11_init_417 : decode cX11_init 417 = .ok (.dup, 1) := by decide +kernel
theorem dX11_init_418 : decode cX11_init 418 = .ok (.bipush 62, 2) := by decide +kernel
theorem dX11_init_420 : decode cX11_init 420 = .ok (.bipush 32, 2) := by decide +kernel
theorem dX11_init_422 : decode cX11_init 422 = .ok (.bastore, 1) := by decide +kernel
theorem dX11_init_423 : decode cX11_init 423 = .ok (.dup, 1) := by decide +kernel
theorem dX11_init_424 : decode cX11_init 424 = .ok (.bipush 63, 2) := by decide +kernel
theorem dX11_init_426 : decode cX11_init 426 = .ok (.bipush 111, 2) := by decide +kernel
theorem dX11_init_428 : decode cX11_init 428 = .ok (.bastore, 1) := by decide +kernel
theorem dX11_init_429 : decode cX11_init 429 = .ok (.dup, 1) := by decide +kernel
theorem dX11_init_430 : decode cX11_init 430 = .ok (.bipush 64, 2) := by decide +kernel
theorem dX11_init_432 : decode cX11_init 432 = .ok (.bipush 119, 2) := by decide +kernel
theorem dX11_init_434 : decode cX11_init 434 = .ok (.bastore, 1) := by decide +kernel
theorem dX11_init_435 : decode cX11_init 435 = .ok (.dup, 1) := by decide +kernel
theorem dX11_init_436 : decode cX11_init 436 = .ok (.bipush 65, 2) := by decide +kernel
theorem dX11_init_438 : decode cX11_init 438 = .ok (.bipush 110, 2) := by decide +kernel
theorem dX11_init_440 : decode cX11_init 440 = .ok (.bastore, 1) := by decide +kernel
theorem dX11_init_441 : decode cX11_init 441 = .ok (.dup, 1) := by decide +kernel
theorem dX11_init_442 : decode cX11_init 442 = .ok (.bipush 66, 2) := by decide +kernel
theorem dX11_init_444 : decode cX11_init 444 = .ok (.bipush 101, 2) := by decide +kernel
theorem dX11_init_446 : decode cX11_init 446 = .ok (.bastore, 1) := by decide +kernel
theorem dX11_init_447 : decode cX11_init 447 = .ok (.dup, 1) := by decide +kernel
theorem dX11_init_448 : decode cX11_init 448 = .ok (.bipush 67, 2) := by decide +kernel
theorem dX11_init_450 : decode cX11_init 450 = .ok (.bipush 114, 2) := by decide +kernel
theorem dX11_init_452 : decode cX11_init 452 = .ok (.bastore, 1) := by decide +kernel
theorem dX11_init_453 : decode cX11_init 453 = .ok (.dup, 1) := by decide +kernel
theorem dX11_init_454 : decode cX11_init 454 = .ok (.bipush 68, 2) := by decide +kernel
theorem dX11_init_456 : decode cX11_init 456 = .ok (.bipush 32, 2) := by decide +kernel
theorem dX11_init_458 : decode cX11_init 458 = .ok (.bastore, 1) := by decide +kernel
theorem dX11_init_459 : decode cX11_init 459 = .ok (.dup, 1) := by decide +kernel
theorem dX11_init_460 : decode cX11_init 460 = .ok (.bipush 69, 2) := by decide +kernel
theorem dX11_init_462 : decode cX11_init 462 = .ok (.bipush 100, 2) := by decide +kernel
theorem dX11_init_464 : decode cX11_init 464 = .ok (.bastore, 1) := by decide +kernel
theorem dX11_init_465 : decode cX11_init 465 = .ok (.dup, 1) := by decide +kernel
theorem dX11_init_466 : decode cX11_init 466 = .ok (.bipush 70, 2) := by decide +kernel
theorem dX11_init_468 : decode cX11_init 468 = .ok (.bipush 97, 2) := by decide +kernel
theorem dX11_init_470 : decode cX11_init 470 = .ok (.bastore, 1) := by decide +kernel
theorem dX11_init_471 : decode cX11_init 471 = .ok (.dup, 1) := by decide +kernel
theorem dX11_init_472 : decode cX11_init 472 = .ok (.bipush 71, 2) := by decide +kernel
theorem dX11_init_474 : decode cX11_init 474 = .ok (.bipush 121, 2) := by decide +kernel
theorem dX11_init_476 : decode cX11_init 476 = .ok (.bastore, 1) := by decide +kernel
theorem dX11_init_477 : decode cX11_init 477 = .ok (.dup, 1) := by decide +kernel
theorem dX11_init_478 : decode cX11_init 478 = .ok (.bipush 72, 2) := by decide +kernel
theorem dX11_init_480 : decode cX11_init 480 = .ok (.bipush 32, 2) := by decide +kernel
theorem dX11_init_482 : decode cX11_init 482 = .ok (.bastore, 1) := by decide +kernel
theorem dX11_init_483 : decode cX11_init 483 = .ok (.dup, 1) := by decide +kernel
theorem dX11_init_484 : decode cX11_init 484 = .ok (.bipush 73, 2) := by decide +kernel
theorem dX11_init_486 : decode cX11_init 486 = .ok (.bipush 100, 2) := by decide +kernel
theorem dX11_init_488 : decode cX11_init 488 = .ok (.bastore, 1) := by decide +kernel
theorem dX11_init_489 : decode cX11_init 489 = .ok (.dup, 1) := by decide +kernel
theorem dX11_init_490 : decode cX11_init 490 = .ok (.bipush 74, 2) := by decide +kernel
theorem dX11_init_492 : decode cX11_init 492 = .ok (.bipush 111, 2) := by decide +kernel
theorem dX11_init_494 : decode cX11_init 494 = .ok (.bastore, 1) := by decide +kernel
theorem dX11_init_495 : decode cX11_init 495 = .ok (.dup, 1) := by decide +kernel
theorem dX11_init_496 : decode cX11_init 496 = .ok (.bipush 75, 2) := by decide +kernel
theorem dX11_init_498 : decode cX11_init 498 = .ok (.bipush 110, 2) := by decide +kernel
theorem dX11_init_500 : decode cX11_init 500 = .ok (.bastore, 1) := by decide +kernel
theorem dX11_init_501 : decode cX11_init 501 = .ok (.dup, 1) := by decide +kernel
theorem dX11_init_502 : decode cX11_init 502 = .ok (.bipush 76, 2) := by decide +kernel
theorem dX11_init_504 : decode cX11_init 504 = .ok (.bipush 101, 2) := by decide +kernel
theorem dX11_init_506 : decode cX11_init 506 = .ok (.bastore, 1) := by decide +kernel
theorem dX11_init_507 : decode cX11_init 507 = .ok (.dup, 1) := by decide +kernel
theorem dX11_init_508 : decode cX11_init 508 = .ok (.bipush 77, 2) := by decide +kernel
theorem dX11_init_510 : decode cX11_init 510 = .ok (.bipush 32, 2) := by decide +kernel
theorem dX11_init_512 : decode cX11_init 512 = .ok (.bastore, 1) := by decide +kernel
theorem dX11_init_513 : decode cX11_init 513 = .ok (.dup, 1) := by decide +kernel
theorem dX11_init_514 : decode cX11_init 514 = .ok (.bipush 78, 2) := by decide +kernel
theorem dX11_init_516 : decode cX11_init 516 = .ok (.bipush 108, 2) := by decide +kernel
theorem dX11_init_518 : decode cX11_init 518 = .ok (.bastore, 1) := by decide +kernel
theorem dX11_init_519 : decode cX11_init 519 = .ok (.dup, 1) := by decide +kernel
theorem dX11_init_520 : decode cX11_init 520 = .ok (.bipush 79, 2) := by decide +kernel
theorem dX11_init_522 : decode cX11_init 522 = .ok (.bipush 97, 2) := by decide +kernel
theorem dX11_init_524 : decode cX11_init 524 = .ok (.bastore, 1) := by decide +kernel
theorem dX11_init_525 : decode cX11_init 525 = .ok (.dup, 1) := by decide +kernel
theorem dX11_init_526 : decode cX11_init 526 = .ok (.bipush 80, 2) := by decide +kernel
theorem dX11_init_528 : decode cX11_init 528 = .ok (.bipush 116, 2) := by decide +kernel
theorem dX11_init_530 : decode cX11_init 530 = .ok (.bastore, 1) := by decide +kernel
theorem dX11_init_531 : decode cX11_init 531 = .ok (.dup, 1) := by decide +kernel
theorem dX11_init_532 : decode cX11_init 532 = .ok (.bipush 81, 2) := by decide +kernel
theorem dX11_init_534 : decode cX11_init 534 = .ok (.bipush 101, 2) := by decide +kernel
theorem dX11_init_536 : decode cX11_init 536 = .ok (.bastore, 1) := by decide +kernel
theorem dX11_init_537 : decode cX11_init 537 = .ok (.dup, 1) := by decide +kernel
theorem dX11_init_538 : decode cX11_init 538 = .ok (.bipush 82, 2) := by decide +kernel
theorem dX11_init_540 : decode cX11_init 540 = .ok (.bipush 115, 2) := by decide +kernel
theorem dX11_init_542 : decode cX11_init 542 = .ok (.bastore, 1) := by decide +kernel
theorem dX11_init_543 : decode cX11_init 543 = .ok (.dup, 1) := by decide +kernel
theorem dX11_init_544 : decode cX11_init 544 = .ok (.bipush 83, 2) := by decide +kernel
theorem dX11_init_546 : decode cX11_init 546 = .ok (.bipush 116, 2) := by decide +kernel
theorem dX11_init_548 : decode cX11_init 548 = .ok (.bastore, 1) := by decide +kernel
theorem dX11_init_549 : decode cX11_init 549 = .ok (.dup, 1) := by decide +kernel
theorem dX11_init_550 : decode cX11_init 550 = .ok (.bipush 84, 2) := by decide +kernel
theorem dX11_init_552 : decode cX11_init 552 = .ok (.bipush 32, 2) := by decide +kernel
theorem dX11_init_554 : decode cX11_init 554 = .ok (.bastore, 1) := by decide +kernel
theorem dX11_init_555 : decode cX11_init 555 = .ok (.dup, 1) := by decide +kernel
theorem dX11_init_556 : decode cX11_init 556 = .ok (.bipush 85, 2) := by decide +kernel
theorem dX11_init_558 : decode cX11_init 558 = .ok (.bipush 100, 2) := by decide +kernel
theorem dX11_init_560 : decode cX11_init 560 = .ok (.bastore, 1) := by decide +kernel
theorem dX11_init_561 : decode cX11_init 561 = .ok (.dup, 1) := by decide +kernel
theorem dX11_init_562 : decode cX11_init 562 = .ok (.bipush 86, 2) := by decide +kernel
theorem dX11_init_564 : decode cX11_init 564 = .ok (.bipush 114, 2) := by decide +kernel
theorem dX11_init_566 : decode cX11_init 566 = .ok (.bastore, 1) := by decide +kernel
theorem dX11_init_567 : decode cX11_init 567 = .ok (.dup, 1) := by decide +kernel
theorem dX11_init_568 : decode cX11_init 568 = .ok (.bipush 87, 2) := by decide +kernel
theorem dX11_init_570 : decode cX11_init 570 = .ok (.bipush 105, 2) := by decide +kernel
theorem dX11_init_572 : decode cX11_init 572 = .ok (.bastore, 1) := by decide +kernel
theorem dX11_init_573 : decode cX11_init 573 = .ok (.dup, 1) := by decide +kernel
theorem dX11_init_574 : decode cX11_init 574 = .ok (.bipush 88, 2) := by decide +kernel
theorem dX11_init_576 : decode cX11_init 576 = .ok (.bipush 108, 2) := by decide +kernel
theorem dX11_init_578 : decode cX11_init 578 = .ok (.bastore, 1) := by decide +kernel
theorem dX11_init_579 : decode cX11_init 579 = .ok (.dup, 1) := by decide +kernel
theorem dX11_init_580 : decode cX11_init 580 = .ok (.bipush 89, 2) := by decide +kernel
theorem dX11_init_582 : decode cX11_init 582 = .ok (.bipush 108, 2) := by decide +kernel
theorem dX11_init_584 : decode cX11_init 584 = .ok (.bastore, 1) := by decide +kernel
theorem dX11_init_585 : decode cX11_init 585 = .ok (.dup, 1) := by decide +kernel
theorem dX11_init_586 : decode cX11_init 586 = .ok (.bipush 90, 2) := by decide +kernel
theorem dX11_init_588 : decode cX11_init 588 = .ok (.bipush 32, 2) := by decide +kernel
theorem dX11_init_590 : decode cX11_init 590 = .ok (.bastore, 1) := by decide +kernel
theorem dX11_init_591 : decode cX11_init 591 = .ok (.dup, 1) := by decide +kernel
theorem dX11_init_592 : decode cX11_init 592 = .ok (.bipush 91, 2) := by decide +kernel
theorem dX11_init_594 : decode cX11_init 594 = .ok (.bipush 110, 2) := by decide +kernel
theorem dX11_init_596 : decode cX11_init 596 = .ok (.bastore, 1) := by decide +kernel
theorem dX11_init_597 : decode cX11_init 597 = .ok (.dup, 1) := by decide +kernel
theorem dX11_init_598 : decode cX11_init 598 = .ok (.bipush 92, 2) := by decide +kernel
theorem dX11_init_600 : decode cX11_init 600 = .ok (.bipush 111, 2) := by decide +kernel
theorem dX11_init_602 : decode cX11_init 602 = .ok (.bastore, 1) := by decide +kernel
theorem dX11_init_603 : decode cX11_init 603 = .ok (.dup, 1) := by decide +kernel
theorem dX11_init_604 : decode cX11_init 604 = .ok (.bipush 93, 2) := by decide +kernel
theorem dX11_init_606 : decode cX11_init 606 = .ok (.bipush 116, 2) := by decide +kernel
theorem dX11_init_608 : decode cX11_init 608 = .ok (.bastore, 1) := by decide +kernel
theorem dX11_init_609 : decode cX11_init 609 = .ok (.dup, 1) := by decide +kernel
theorem dX11_init_610 : decode cX11_init 610 = .ok (.bipush 94, 2) := by decide +kernel
theorem dX11_init_612 : decode cX11_init 612 = .ok (.bipush 101, 2) := by decide +kernel
theorem dX11_init_614 : decode cX11_init 614 = .ok (.bastore, 1) := by decide +kernel
theorem dX11_init_615 : decode cX11_init 615 = .ok (.dup, 1) := by decide +kernel
theorem dX11_init_616 : decode cX11_init 616 = .ok (.bipush 95, 2) := by decide +kernel
theorem dX11_init_618 : decode cX11_init 618 = .ok (.bipush 115, 2) := by decide +kernel
theorem dX11_init_620 : decode cX11_init 620 = .ok (.bastore, 1) := by decide +kernel
theorem dX11_init_621 : decode cX11_init 621 = .ok (.dup, 1) := by decide +kernel
theorem dX11_init_622 : decode cX11_init 622 = .ok (.bipush 96, 2) := by decide +kernel
theorem dX11_init_624 : decode cX11_init 624 = .ok (.bipush 32, 2) := by decide +kernel
theorem dX11_init_626 : decode cX11_init 626 = .ok (.bastore, 1) := by decide +kernel
theorem dX11_init_627 : decode cX11_init 627 = .ok (.dup, 1) := by decide +kernel
theorem dX11_init_628 : decode cX11_init 628 = .ok (.bipush 97, 2) := by decide +kernel
theorem dX11_init_630 : decode cX11_init 630 = .ok (.bipush 109, 2) := by decide +kernel
theorem dX11_init_632 : decode cX11_init 632 = .ok (.bastore, 1) := by decide +kernel
theorem dX11_init_633 : decode cX11_init 633 = .ok (.dup, 1) := by decide +kernel
theorem dX11_init_634 : decode cX11_init 634 = .ok (.bipush 98, 2) := by decide +kernel
theorem dX11_init_636 : decode cX11_init 636 = .ok (.bipush 117, 2) := by decide +kernel
theorem dX11_init_638 : decode cX11_init 638 = .ok (.bastore, 1) := by decide +kernel
theorem dX11_init_639 : decode cX11_init 639 = .ok (.dup, 1) := by decide +kernel
theorem dX11_init_640 : decode cX11_init 640 = .ok (.bipush 99, 2) := by decide +kernel
theorem dX11_init_642 : decode cX11_init 642 = .ok (.bipush 115, 2) := by decide +kernel
theorem dX11_init_644 : decode cX11_init 644 = .ok (.bastore, 1) := by decide +kernel
theorem dX11_init_645 : decode cX11_init 645 = .ok (.dup, 1) := by decide +kernel
theorem dX11_init_646 : decode cX11_init 646 = .ok (.bipush 100, 2) := by decide +kernel
theorem dX11_init_648 : decode cX11_init 648 = .ok (.bipush 105, 2) := by decide +kernel
theorem dX11_init_650 : decode cX11_init 650 = .ok (.bastore, 1) := by decide +kernel
theorem dX11_init_651 : decode cX11_init 651 = .ok (.dup, 1) := by decide +kernel
theorem dX11_init_652 : decode cX11_init 652 = .ok (.bipush 101, 2) := by decide +kernel
theorem dX11_init_654 : decode cX11_init 654 = .ok (.bipush 99, 2) := by decide +kernel
theorem dX11_init_656 : decode cX11_init 656 = .ok (.bastore, 1) := by decide +kernel
theorem dX11_init_657 : decode cX11_init 657 = .ok (.dup, 1) := by decide +kernel
theorem dX11_init_658 : decode cX11_init 658 = .ok (.bipush 102, 2) := by decide +kernel
theorem dX11_init_660 : decode cX11_init 660 = .ok (.bipush 32, 2) := by decide +kernel
theorem dX11_init_662 : decode cX11_init 662 = .ok (.bastore, 1) := by decide +kernel
theorem dX11_init_663 : decode cX11_init 663 = .ok (.dup, 1) := by decide +kernel
theorem dX11_init_664 : decode cX11_init 664 = .ok (.bipush 103, 2) := by decide +kernel
theorem dX11_init_666 : decode cX11_init 666 = .ok (.bipush 110, 2) := by decide +kernel
theorem dX11_init_668 : decode cX11_init 668 = .ok (.bastore, 1) := by decide +kernel
theorem dX11_init_669 : decode cX11_init 669 = .ok (.dup, 1) := by decide +kernel
theorem dX11_init_670 : decode cX11_init 670 = .ok (.bipush 104, 2) := by decide +kernel
theorem dX11_init_672 : decode cX11_init 672 = .ok (.bipush 111, 2) := by decide +kernel
theorem dX11_init_674 : decode cX11_init 674 = .ok (.bastore, 1) := by decide +kernel
theorem dX11_init_675 : decode cX11_init 675 = .ok (.dup, 1) := by decide +kernel
theorem dX11_init_676 : decode cX11_init 676 = .ok (.bipush 105, 2) := by decide +kernel
theorem dX11_init_678 : decode cX11_init 678 = .ok (.bipush 116, 2) := by decide +kernel
theorem dX11_init_680 : decode cX11_init 680 = .ok (.bastore, 1) := by decide +kernel
theorem dX11_init_681 : decode cX11_init 681 = .ok (.dup, 1) := by decide +kernel
theorem dX11_init_682 : decode cX11_init 682 = .ok (.bipush 106, 2) := by decide +kernel
theorem dX11_init_684 : decode cX11_init 684 = .ok (.bipush 101, 2) := by decide +kernel
theorem dX11_init_686 : decode cX11_init 686 = .ok (.bastore, 1) := by decide +kernel
theorem dX11_init_687 : decode cX11_init 687 = .ok (.dup, 1) := by decide +kernel
theorem dX11_init_688 : decode cX11_init 688 = .ok (.bipush 107, 2) := by decide +kernel
theorem dX11_init_690 : decode cX11_init 690 = .ok (.bipush 32, 2) := by decide +kernel
theorem dX11_init_692 : decode cX11_init 692 = .ok (.bastore, 1) := by decide +kernel
theorem dX11_init_693 : decode cX11_init 693 = .ok (.dup, 1) := by decide +kernel
theorem dX11_init_694 : decode cX11_init 694 = .ok (.bipush 108, 2) := by decide +kernel
theorem dX11_init_696 : decode cX11_init 696 = .ok (.bipush 97, 2) := by decide +kernel
theorem dX11_init_698 : decode cX11_init 698 = .ok (.bastore, 1) := by decide +kernel
theorem dX11_init_699 : decode cX11_init 699 = .ok (.dup, 1) := by decide +kernel
theorem dX11_init_700 : decode cX11_init 700 = .ok (.bipush 109, 2) := by decide +kernel
theorem dX11_init_702 : decode cX11_init 702 = .ok (.bipush 116, 2) := by decide +kernel
theorem dX11_init_704 : decode cX11_init 704 = .ok (.bastore, 1) := by decide +kernel
theorem dX11_init_705 : decode cX11_init 705 = .ok (.dup, 1) := by decide +kernel
theorem dX11_init_706 : decode cX11_init 706 = .ok (.bipush 110, 2) := by decide +kernel
theorem dX11_init_708 : decode cX11_init 708 = .ok (.bipush 32, 2) := by decide +kernel
theorem dX11_init_710 : decode cX11_init 710 = .ok (.bastore, 1) := by decide +kernel
theorem dX11_init_711 : decode cX11_init 711 = .ok (.dup, 1) := by decide +kernel
theorem dX11_init_712 : decode cX11_init 712 = .ok (.bipush 111, 2) := by decide +kernel
theorem dX11_init_714 : decode cX11_init 714 = .ok (.bipush 103, 2) := by decide +kernel
theorem dX11_init_716 : decode cX11_init 716 = .ok (.bastore, 1) := by decide +kernel
theorem dX11_init_717 : decode cX11_init 717 = .ok (.dup, 1) := by decide +kernel
theorem dX11_init_718 : decode cX11_init 718 = .ok (.bipush 112, 2) := by decide +kernel
theorem dX11_init_720 : decode cX11_init 720 = .ok (.bipush 105, 2) := by decide +kernel
theorem dX11_init_722 : decode cX11_init 722 = .ok (.bastore, 1) := by decide +kernel
theorem dX11_init_723 : decode cX11_init 723 = .ok (.dup, 1) := by decide +kernel
theorem dX11_init_724 : decode cX11_init 724 = .ok (.bipush 113, 2) := by decide +kernel
theorem dX11_init_726 : decode cX11_init 726 = .ok (.bipush 118, 2) := by decide +kernel
theorem dX11_init_728 : decode cX11_init 728 = .ok (.bastore, 1) := by decide +kernel
theorem dX11_init_729 : decode cX11_init 729 = .ok (.dup, 1) := by decide +kernel
theorem dX11_init_730 : decode cX11_init 730 = .ok (.bipush 114, 2) := by decide +kernel
theorem dX11_init_732 : decode cX11_init 732 = .ok (.bipush 101, 2) := by decide +kernel
theorem dX11_init_734 : decode cX11_init 734 = .ok (.bastore, 1) := by decide +kernel
theorem dX11_init_735 : decode cX11_init 735 = .ok (.dup, 1) := by decide +kernel
theorem dX11_init_736 : decode cX11_init 736 = .ok (.bipush 115, 2) := by decide +kernel
theorem dX11_init_738 : decode cX11_init 738 = .ok (.bipush 32, 2) := by decide +kernel
theorem dX11_init_740 : decode cX11_init 740 = .ok (.bastore, 1) := by decide +kernel
theorem dX11_init_741 : decode cX11_init 741 = .ok (.dup, 1) := by decide +kernel
theorem dX11_init_742 : decode cX11_init 742 = .ok (.bipush 116, 2) := by decide +kernel
theorem dX11_init_744 : decode cX11_init 744 = .ok (.bipush 116, 2) := by decide +kernel
theorem dX11_init_746 : decode cX11_init 746 = .ok (.bastore, 1) := by decide +kernel
theorem dX11_init_747 : decode cX11_init 747 = .ok (.dup, 1) := by decide +kernel
theorem dX11_init_748 : decode cX11_init 748 = .ok (.bipush 117, 2) := by decide +kernel
theorem dX11_init_750 : decode cX11_init 750 = .ok (.bipush 111, 2) := by decide +kernel
theorem dX11_init_752 : decode cX11_init 752 = .ok (.bastore, 1) := by decide +kernel
theorem dX11_init_753 : decode cX11_init 753 = .ok (.dup, 1) := by decide +kernel
theorem dX11_init_754 : decode cX11_init 754 = .ok (.bipush 118, 2) := by decide +kernel
theorem dX11_init_756 : decode cX11_init 756 = .ok (.bipush 32, 2) := by decide +kernel
theorem dX11_init_758 : decode cX11_init 758 = .ok (.bastore, 1) := by decide +kernel
theorem dX11_init_759 : decode cX11_init 759 = .ok (.dup, 1) := by decide +kernel
theorem dX11_init_760 : decode cX11_init 760 = .ok (.bipush 119, 2) := by decide +kernel
theorem dX11_init_762 : decode cX11_init 762 = .ok (.bipush 115, 2) := by decide +kernel
theorem dX11_init_764 : decode cX11_init 764 = .ok (.bastore, 1) := by decide +kernel
theorem dX11_init_765 : decode cX11_init 765 = .ok (.dup, 1) := by decide +kernel
theorem dX11_init_766 : decode cX11_init 766 = .ok (.bipush 120, 2) := by decide +kernel
theorem dX11_init_768 : decode cX11_init 768 = .ok (.bipush 104, 2) := by decide +kernel
theorem dX11_init_770 : decode cX11_init 770 = .ok (.bastore, 1) := by decide +kernel
theorem dX11_init_771 : decode cX11_init 771 = .ok (.dup, 1) := by decide +kernel
theorem dX11_init_772 : decode cX11_init 772 = .ok (.bipush 121, 2) := by decide +kernel
theorem dX11_init_774 : decode cX11_init 774 = .ok (.bipush 105, 2) := by decide +kernel
theorem dX11_init_776 : decode cX11_init 776 = .ok (.bastore, 1) := by decide +kernel
theorem dX11_init_777 : decode cX11_init 777 = .ok (.dup, 1) := by decide +kernel
theorem dX11_init_778 : decode cX11_init 778 = .ok (.bipush 122, 2) := by decide +kernel
theorem dX11_init_780 : decode cX11_init 780 = .ok (.bipush 102, 2) := by decide +kernel
theorem dX11_init_782 : decode cX11_init 782 = .ok (.bastore, 1) := by decide +kernel
theorem dX11_init_783 : decode cX11_init 783 = .ok (.dup, 1) := by decide +kernel
theorem dX11_init_784 : decode cX11_init 784 = .ok (.bipush 123, 2) := by decide +kernel
theorem dX11_init_786 : decode cX11_init 786 = .ok (.bipush 116, 2) := by decide +kernel
theorem dX11_init_788 : decode cX11_init 788 = .ok (.bastore, 1) := by decide +kernel
theorem dX11_init_789 : decode cX11_init 789 = .ok (.dup, 1) := by decide +kernel
theorem dX11_init_790 : decode cX11_init 790 = .ok (.bipush 124, 2) := by decide +kernel
theorem dX11_init_792 : decode cX11_init 792 = .ok (.bipush 32, 2) := by decide +kernel
theorem dX11_init_794 : decode cX11_init 794 = .ok (.bastore, 1) := by decide +kernel
theorem dX11_init_795 : decode cX11_init 795 = .ok (.dup, 1) := by decide +kernel
theorem dX11_init_796 : decode cX11_init 796 = .ok (.bipush 125, 2) := by decide +kernel
theorem dX11_init_798 : decode cX11_init 798 = .ok (.bipush 112, 2) := by decide +kernel
theorem dX11_init_800 : decode cX11_init 800 = .ok (.bastore, 1) := by decide +kernel
theorem dX11_init_801 : decode cX11_init 801 = .ok (.dup, 1) := by decide +kernel
theorem dX11_init_802 : decode cX11_init 802 = .ok (.bipush 126, 2) := by decide +kernel
theorem dX11_init_804 : decode cX11_init 804 = .ok (.bipush 97, 2) := by decide +kernel
theorem dX11_init_806 : decode cX11_init 806 = .ok (.bastore, 1) := by decide +kernel
theorem dX11_init_807 : decode cX11_init 807 = .ok (.dup, 1) := by decide +kernel
theorem dX11_init_808 : decode cX11_init 808 = .ok (.bipush 127, 2) := by decide +kernel
theorem dX11_init_810 : decode cX11_init 810 = .ok (.bipush 115, 2) := by decide +kernel
theorem dX11_init_812 : decode cX11_init 812 = .ok (.bastore, 1) := by decide +kernel
theorem dX11_init_813 : decode cX11_init 813 = .ok (.dup, 1) := by decide +kernel
theorem dX11_init_814 : decode cX11_init 814 = .ok (.sipush 128, 3) := by decide +kernel
theorem dX11_init_817 : decode cX11_init 817 = .ok (.bipush 115, 2) := by decide +kernel
theorem dX11_init_819 : decode cX11_init 819 = .ok (.bastore, 1) := by decide +kernel
theorem dX11_init_820 : decode cX11_init 820 = .ok (.dup, 1) := by decide +kernel
theorem dX11_init_821 : decode cX11_init 821 = .ok (.sipush 129, 3) := by decide +kernel
theorem dX11_init_824 : decode cX11_init 824 = .ok (.bipush 32, 2) := by decide +kernel
theorem dX11_init_826 : decode cX11_init 826 = .ok (.bastore, 1) := by decide +kernel
theorem dX11_init_827 : decode cX11_init 827 = .ok (.dup, 1) := by decide +kernel
theorem dX11_init_828 : decode cX11_init 828 = .ok (.sipush 130, 3) := by decide +kernel
theorem dX11_init_831 : decode cX11_init 831 = .ok (.bipush 116, 2) := by decide +kernel
theorem dX11_init_833 : decode cX11_init 833 = .ok (.bastore, 1) := by decide +kernel
theorem dX11_init_834 : decode cX11_init 834 = .ok (.dup, 1) := by decide +kernel
theorem dX11_init_835 : decode cX11_init 835 = .ok (.sipush 131, 3) := by decide +kernel
theorem dX11_init_838 : decode cX11_init 838 = .ok (.bipush 105, 2) := by decide +kernel
theorem dX11_init_840 : decode cX11_init 840 = .ok (.bastore, 1) := by decide +kernel
theorem dX11_init_841 : decode cX11_init 841 = .ok (.dup, 1) := by decide +kernel
theorem dX11_init_842 : decode cX11_init 842 = .ok (.sipush 132, 3) := by decide +kernel
theorem dX11_init_845 : decode cX11_init 845 = .ok (.bipush 109, 2) := by decide +kernel
theorem dX11_init_847 : decode cX11_init 847 = .ok (.bastore, 1) := by decide +kernel
theorem dX11_init_848 : decode cX11_init 848 = .ok (.dup, 1) := by decide +kernel
theorem dX11_init_849 : decode cX11_init 849 = .ok (.sipush 133, 3) := by decide +kernel
theorem dX11_init_852 : decode cX11_init 852 = .ok (.bipush 101, 2) := by decide +kernel
theorem dX11_init_854 : decode cX11_init 854 = .ok (.bastore, 1) := by decide +kernel
theorem dX11_init_855 : decode cX11_init 855 = .ok (.dup, 1) := by decide +kernel
theorem dX11_init_856 : decode cX11_init 856 = .ok (.sipush 134, 3) := by decide +kernel
theorem dX11_init_859 : decode cX11_init 859 = .ok (.bipush 115, 2) := by decide +kernel
theorem dX11_init_861 : decode cX11_init 861 = .ok (.bastore, 1) := by decide +kernel
theorem dX11_init_862 : decode cX11_init 862 = .ok (.dup, 1) := by decide +kernel
theorem dX11_init_863 : decode cX11_init 863 = .ok (.sipush 135, 3) := by decide +kernel
theorem dX11_init_866 : decode cX11_init 866 = .ok (.bipush 32, 2) := by decide +kernel
theorem dX11_init_868 : decode cX11_init 868 = .ok (.bastore, 1) := by decide +kernel
theorem dX11_init_869 : decode cX11_init 869 = .ok (.putfield 41, 3) := by decide +kernel
theorem dX11_init_872 : decode cX11_init 872 = .ok (.aload_n 0, 1) := by decide +kernel
theorem dX11_init_873 : decode cX11_init 873 = .ok (.sipush 400, 3) := by decide +kernel
theorem dX11_init_876 : decode cX11_init 876 = .ok (.newarray .byte, 2) := by decide +kernel
theorem dX11_init_878 : decode cX11_init 878 = .ok (.putfield 45, 3) := by decide +kernel
theorem dX11_init_881 : decode cX11_init 881 = .ok (.aload_n 0, 1) := by decide +kernel
theorem dX11_init_882 : decode cX11_init 882 = .ok (.iconst 5, 1) := by decide +kernel
theorem dX11_init_883 : decode cX11_init 883 = .ok (.newarray .int, 2) := by decide +kernel
theorem dX11_init_885 : decode cX11_init 885 = .ok (.putfield 48, 3) := by decide +kernel
theorem dX11_init_888 : decode cX11_init 888 = .ok (.aload_n 0, 1) := by decide +kernel
theorem dX11_init_889 : decode cX11_init 889 = .ok (.iconst (-1), 1) := by decide +kernel
theorem dX11_init_890 : decode cX11_init 890 = .ok (.putfield 51, 3) := by decide +kernel
theorem dX11_init_893 : decode cX11_init 893 = .ok (.aload_n 0, 1) := by decide +kernel
theorem dX11_init_894 : decode cX11_init 894 = .ok (.sipush 401, 3) := by decide +kernel
theorem dX11_init_897 : decode cX11_init 897 = .ok (.newarray .int, 2) := by decide +kernel
theorem dX11_init_899 : decode cX11_init 899 = .ok (.putfield 54, 3) := by decide +kernel
theorem dX11_init_902 : decode cX11_init 902 = .ok (.aload_n 0, 1) := by decide +kernel
theorem dX11_init_903 : decode cX11_init 903 = .ok (.sipush 401, 3) := by decide +kernel
theorem dX11_init_906 : decode cX11_init 906 = .ok (.newarray .int, 2) := by decide +kernel
theorem dX11_init_908 : decode cX11_init 908 = .ok (.putfield 57, 3) := by decide +kernel
theorem dX11_init_911 : decode cX11_init 911 = .ok (.aload_n 0, 1) := by decide +kernel
theorem dX11_init_912 : decode cX11_init 912 = .ok (.sipush 401, 3) := by decide +kernel
theorem dX11_init_915 : decode cX11_init 915 = .ok (.newarray .int, 2) := by decide +kernel
theorem dX11_init_917 : decode cX11_init 917 = .ok (.putfield 60, 3) := by decide +kernel
theorem dX11_init_920 : decode cX11_init 920 = .ok (.aload_n 0, 1) := by decide +kernel
theorem dX11_init_921 : decode cX11_init 921 = .ok (.bipush 8, 2) := by decide +kernel
theorem dX11_init_923 : decode cX11_init 923 = .ok (.newarray .int, 2) := by decide +kernel
theorem dX11_init_925 : decode cX11_init 925 = .ok (.putfield 63, 3) := by decide +kernel
theorem dX11_init_928 : decode cX11_init 928 = .ok (.aload_n 0, 1) := by decide +kernel
theorem dX11_init_929 : decode cX11_init 929 = .ok (.sipush 1536, 3) := by decide +kernel
theorem dX11_init_932 : decode cX11_init 932 = .ok (.newarray .int, 2) := by decide +kernel
theorem dX11_init_934 : decode cX11_init 934 = .ok (.putfield 66, 3) := by decide +kernel
theorem dX11_init_937 : decode cX11_init 937 = .ok (.aload_n 0, 1) := by decide +kernel
theorem dX11_init_938 : decode cX11_init 938 = .ok (.bipush 8, 2) := by decide +kernel
theorem dX11_init_940 : decode cX11_init 940 = .ok (.newarray .int, 2) := by decide +kernel
theorem dX11_init_942 : decode cX11_init 942 = .ok (.putfield 69, 3) := by decide +kernel
theorem dX11_init_945 : decode cX11_init 945 = .ok (.aload_n 0, 1) := by decide +kernel
theorem dX11_init_946 : decode cX11_init 946 = .ok (.sipush 1792, 3) := by decide +kernel
theorem dX11_init_949 : decode cX11_init 949 = .ok (.newarray .int, 2) := by decide +kernel
theorem dX11_init_951 : decode cX11_init 951 = .ok (.putfield 72, 3) := by decide +kernel
theorem dX11_init_954 : decode cX11_init 954 = .ok (.aload_n 0, 1) := by decide +kernel
theorem dX11_init_955 : decode cX11_init 955 = .ok (.bipush 6, 2) := by decide +kernel
theorem dX11_init_957 : decode cX11_init 957 = .ok (.newarray .int, 2) := by decide +kernel
theorem dX11_init_959 : decode cX11_init 959 = .ok (.putfield 75, 3) := by decide +kernel
theorem dX11_init_962 : decode cX11_init 962 = .ok (.aload_n 0, 1) := by decide +kernel
theorem dX11_init_963 : decode cX11_init 963 = .ok (.bipush 8, 2) := by decide +kernel
theorem dX11_init_965 : decode cX11_init 965 = .ok (.newarray .int, 2) := by decide +kernel
theorem dX11_init_967 : decode cX11_init 967 = .ok (.putfield 78, 3) := by decide +kernel
theorem dX11_init_970 : decode cX11_init 970 = .ok (.aload_n 0, 1) := by decide +kernel
theorem dX11_init_971 : decode cX11_init 971 = .ok (.sipush 16384, 3) := by decide +kernel
theorem dX11_init_974 : decode cX11_init 974 = .ok (.newarray .boolean, 2) := by decide +kernel
theorem dX11_init_976 : decode cX11_init 976 = .ok (.putfield 81, 3) := by decide +kernel
theorem dX11_init_979 : decode cX11_init 979 = .ok (.aload_n 0, 1) := by decide +kernel
theorem dX11_init_980 : decode cX11_init 980 = .ok (.bipush 64, 2) := by decide +kernel
theorem dX11_init_982 : decode cX11_init 982 = .ok (.newarray .boolean, 2) := by decide +kernel
theorem dX11_init_984 : decode cX11_init 984 = .ok (.putfield 84, 3) := by decide +kernel
theorem dX11_init_987 : decode cX11_init 987 = .ok (.aload_n 0, 1) := by decide +kernel
theorem dX11_init_988 : decode cX11_init 988 = .ok (.bipush 36, 2) := by decide +kernel
theorem dX11_init_990 : decode cX11_init 990 = .ok (.newarray .int, 2) := by decide +kernel
theorem dX11_init_992 : decode cX11_init 992 = .ok (.putfield 87, 3) := by decide +kernel
theorem dX11_init_995 : decode cX11_init 995 = .ok (.aload_n 0, 1) := by decide +kernel
theorem dX11_init_996 : decode cX11_init 996 = .ok (.bipush 64, 2) := by decide +kernel
theorem dX11_init_998 : decode cX11_init 998 = .ok (.newarray .int, 2) := by decide +kernel
theorem dX11_init_1000 : decode cX11_init 1000 = .ok (.putfield 90, 3) := by decide +kernel
theorem dX11_init_1003 : decode cX11_init 1003 = .ok (.aload_n 0, 1) := by decide +kernel
theorem dX11_init_1004 : decode cX11_init 1004 = .ok (.bipush 21, 2) := by decide +kernel
theorem dX11_init_1006 : decode cX11_init 1006 = .ok (.newarray .long, 2) := by decide +kernel
theorem dX11_init_1008 : decode cX11_init 1008 = .ok (.putfield 93, 3) := by decide +kernel
theorem dX11_init_1011 : decode cX11_init 1011 = .ok (.aload_n 0, 1) := by decide +kernel
theorem dX11_init_1012 : decode cX11_init 1012 = .ok (.sipush 416, 3) := by decide +kernel
theorem dX11_init_1015 : decode cX11_init 1015 = .ok (.newarray .int, 2) := by decide +kernel
theorem dX11_init_1017 : decode cX11_init 1017 = .ok (.putfield 97, 3) := by decide +kernel
theorem dX11_init_1020 : decode cX11_init 1020 = .ok (.aload_n 0, 1) := by decide +kernel
theorem dX11_init_1021 : decode cX11_init 1021 = .ok (.sipush 416, 3) := by decide +kernel
theorem dX11_init_1024 : decode cX11_init 1024 = .ok (.newarray .int, 2) := by decide +kernel
theorem dX11_init_1026 : decode cX11_init 1026 = .ok (.putfield 100, 3) := by decide +kernel
theorem dX11_init_1029 : decode cX11_init 1029 = .ok (.aload_n 0, 1) := by decide +kernel
theorem dX11_init_1030 : decode cX11_init 1030 = .ok (.iconst (-1), 1) := by decide +kernel
theorem dX11_init_1031 : decode cX11_init 1031 = .ok (.putfield 103, 3) := by decide +kernel
theorem dX11_init_1034 : decode cX11_init 1034 = .ok (.aload_n 0, 1) := by decide +kernel
theorem dX11_init_1035 : decode cX11_init 1035 = .ok (.iconst 2, 1) := by decide +kernel
theorem dX11_init_1036 : decode cX11_init 1036 = .ok (.newarray .long, 2) := by decide +kernel
theorem dX11_init_1038 : decode cX11_init 1038 = .ok (.putfield 106, 3) := by decide +kernel
theorem dX11_init_1041 : decode cX11_init 1041 = .ok (.aload_n 0, 1) := by decide +kernel
theorem dX11_init_1042 : decode cX11_init 1042 = .ok (.bipush 25, 2) := by decide +kernel
theorem dX11_init_1044 : decode cX11_init 1044 = .ok (.newarray .int, 2) := by decide +kernel
theorem dX11_init_1046 : decode cX11_init 1046 = .ok (.putfield 109, 3) := by decide +kernel
theorem dX11_init_1049 : decode cX11_init 1049 = .ok (.aload_n 0, 1) := by decide +kernel
theorem dX11_init_1050 : decode cX11_init 1050 = .ok (.getfield 28, 3) := by decide +kernel
theorem dX11_init_1053 : decode cX11_init 1053 = .ok (.bipush 43, 2) := by decide +kernel
theorem dX11_init_1055 : decode cX11_init 1055 = .ok (.iconst 1, 1) := by decide +kernel
theorem dX11_init_1056 : decode cX11_init 1056 = .ok (.iastore, 1) := by decide +kernel
theorem dX11_init_1057 : decode cX11_init 1057 = .ok (.aload_n 0, 1) := by decide +kernel
theorem dX11_init_1058 : decode cX11_init 1058 = .ok (.getfield 28, 3) := by decide +kernel
theorem dX11_init_1061 : decode cX11_init 1061 = .ok (.bipush 48, 2) := by decide +kernel
theorem dX11_init_1063 : decode cX11_init 1063 = .ok (.iconst (-1), 1) := by decide +kernel
theorem dX11_init_1064 : decode cX11_init 1064 = .ok (.iastore, 1) := by decide +kernel
theorem dX11_init_1065 : decode cX11_init 1065 = .ok (.iconst 0, 1) := by decide +kernel
theorem dX11_init_1066 : decode cX11_init 1066 = .ok (.istore_n 1, 1) := by decide +kernel
theorem dX11_init_1067 : decode cX11_init 1067 = .ok (.iload_n 1, 1) := by decide +kernel
theorem dX11_init_1068 : decode cX11_init 1068 = .ok (.bipush 8, 2) := by decide +kernel
theorem dX11_init_1070 : decode cX11_init 1070 = .ok (.if_icmp .ge 18, 3) := by decide +kernel
theorem dX11_init_1073 : decode cX11_init 1073 = .ok (.aload_n 0, 1) := by decide +kernel
theorem dX11_init_1074 : decode cX11_init 1074 = .ok (.getfield 28, 3) := by decide +kernel
theorem dX11_init_1077 : decode cX11_init 1077 = .ok (.iconst 0, 1) := by decide +kernel
theorem dX11_init_1078 : decode cX11_init 1078 = .ok (.iload_n 1, 1) := by decide +kernel
theorem dX11_init_1079 : decode cX11_init 1079 = .ok (.iadd, 1) := by decide +kernel
theorem dX11_init_1080 : decode cX11_init 1080 = .ok (.iconst (-1), 1) := by decide +kernel
theorem dX11_init_1081 : decode cX11_init 1081 = .ok (.iastore, 1) := by decide +kernel
theorem dX11_init_1082 : decode cX11_init 1082 = .ok (.iinc 1 1, 3) := by decide +kernel
theorem dX11_init_1085 : decode cX11_init 1085 = .ok (.goto (-18), 3) := by decide +kernel
theorem dX11_init_1088 : decode cX11_init 1088 = .ok (.return_, 1) := by decide +kernel
theorem dX1_init_0 : decode cX1_init 0 = .ok (.aload_n 0, 1) := by decide +kernel
theorem dX1_init_1 : decode cX1_init 1 = .ok (.invokespecial 3, 3) := by decide +kernel
theorem dX1_init_4 : decode cX1_init 4 = .ok (.aload_n 0, 1) := by decide +kernel
theorem dX1_init_5 : decode cX1_init 5 = .ok (.bipush 36, 2) := by decide +kernel
theorem dX1_init_7 : decode cX1_init 7 = .ok (.newarray .int, 2) := by decide +kernel
theorem dX1_init_9 : decode cX1_init 9 = .ok (.putfield 9, 3) := by decide +kernel
theorem dX1_init_12 : decode cX1_init 12 = .ok (.aload_n 0, 1) := by decide +kernel
theorem dX1_init_13 : decode cX1_init 13 = .ok (.bipush 64, 2) := by decide +kernel
theorem dX1_init_15 : decode cX1_init 15 = .ok (.newarray .int, 2) := by decide +kernel
theorem dX1_init_17 : decode cX1_init 17 = .ok (.putfield 15, 3) := by decide +kernel
theorem dX1_init_20 : decode cX1_init 20 = .ok (.return_, 1) := by decide +kernel
theorem dX2_init_0 : decode cX2_init 0 = .ok (.aload_n 0, 1) := by decide +kernel
theorem dX2_init_1 : decode cX2_init 1 = .ok (.invokespecial 3, 3) := by decide +kernel
theorem dX2_init_4 : decode cX2_init 4 = .ok (.aload_n 0, 1) := by decide +kernel
theorem dX2_init_5 : decode cX2_init 5 = .ok (.new 9, 3) := by decide +kernel
theorem dX2_init_8 : decode cX2_init 8 = .ok (.dup, 1) := by decide +kernel
theorem dX2_init_9 : decode cX2_init 9 = .ok (.invokespecial 11, 3) := by decide +kernel
theorem dX2_init_12 : decode cX2_init 12 = .ok (.putfield 12, 3) := by decide +kernel
theorem dX2_init_15 : decode cX2_init 15 = .ok (.aload_n 0, 1) := by decide +kernel
theorem dX2_init_16 : decode cX2_init 16 = .ok (.bipush 8, 2) := by decide +kernel
theorem dX2_init_18 : decode cX2_init 18 = .ok (.newarray .int, 2) := by decide +kernel
theorem dX2_init_20 : decode cX2_init 20 = .ok (.putfield 18, 3) := by decide +kernel
theorem dX2_init_23 : decode cX2_init 23 = .ok (.return_, 1) := by decide +kernel
theorem dX3_init_0 : decode cX3_init 0 = .ok (.aload_n 0, 1) := by decide +kernel
theorem dX3_init_1 : decode cX3_init 1 = .ok (.invokespecial 3, 3) := by decide +kernel
theorem dX3_init_4 : decode cX3_init 4 = .ok (.aload_n 0, 1) := by decide +kernel
theorem dX3_init_5 : decode cX3_init 5 = .ok (.bipush 6, 2) := by decide +kernel
theorem dX3_init_7 : decode cX3_init 7 = .ok (.newarray .int, 2) := by decide +kernel
theorem dX3_init_9 : decode cX3_init 9 = .ok (.putfield 9, 3) := by decide +kernel
theorem dX3_init_12 : decode cX3_init 12 = .ok (.aload_n 0, 1) := by decide +kernel
theorem dX3_init_13 : decode cX3_init 13 = .ok (.bipush 6, 2) := by decide +kernel
theorem dX3_init_15 : decode cX3_init 15 = .ok (.newarray .int, 2) := by decide +kernel
theorem dX3_init_17 : decode cX3_init 17 = .ok (.putfield 15, 3) := by decide +kernel
theorem dX3_init_20 : decode cX3_init 20 = .ok (.aload_n 0, 1) := by decide +kernel
theorem dX3_init_21 : decode cX3_init 21 = .ok (.bipush 48, 2) := by decide +kernel
theorem dX3_init_23 : decode cX3_init 23 = .ok (.newarray .long, 2) := by decide +kernel
theorem dX3_init_25 : decode cX3_init 25 = .ok (.putfield 18, 3) := by decide +kernel
theorem dX3_init_28 : decode cX3_init 28 = .ok (.aload_n 0, 1) := by decide +kernel
theorem dX3_init_29 : decode cX3_init 29 = .ok (.sipush 256, 3) := by decide +kernel
theorem dX3_init_32 : decode cX3_init 32 = .ok (.newarray .long, 2) := by decide +kernel
theorem dX3_init_34 : decode cX3_init 34 = .ok (.putfield 22, 3) := by decide +kernel
theorem dX3_init_37 : decode cX3_init 37 = .ok (.aload_n 0, 1) := by decide +kernel
theorem dX3_init_38 : decode cX3_init 38 = .ok (.sipush 256, 3) := by decide +kernel
theorem dX3_init_41 : decode cX3_init 41 = .ok (.newarray .long, 2) := by decide +kernel
theorem dX3_init_43 : decode cX3_init 43 = .ok (.putfield 25, 3) := by decide +kernel
theorem dX3_init_46 : decode cX3_init 46 = .ok (.aload_n 0, 1) := by decide +kernel
theorem dX3_init_47 : decode cX3_init 47 = .ok (.sipush 256, 3) := by decide +kernel
theorem dX3_init_50 : decode cX3_init 50 = .ok (.newarray .int, 2) := by decide +kernel
theorem dX3_init_52 : decode cX3_init 52 = .ok (.putfield 28, 3) := by decide +kernel
theorem dX3_init_55 : decode cX3_init 55 = .ok (.aload_n 0, 1) := by decide +kernel
theorem dX3_init_56 : decode cX3_init 56 = .ok (.bipush 64, 2) := by decide +kernel
theorem dX3_init_58 : decode cX3_init 58 = .ok (.newarray .boolean, 2) := by decide +kernel
theorem dX3_init_60 : decode cX3_init 60 = .ok (.putfield 31, 3) := by decide +kernel
theorem dX3_init_63 : decode cX3_init 63 = .ok (.aload_n 0, 1) := by decide +kernel
theorem dX3_init_64 : decode cX3_init 64 = .ok (.aload_n 1, 1) := by decide +kernel
theorem dX3_init_65 : decode cX3_init 65 = .ok (.putfield 35, 3) := by decide +kernel
theorem dX3_init_68 : decode cX3_init 68 = .ok (.return_, 1) := by decide +kernel
theorem dX4_init_0 : decode cX4_init 0 = .ok (.aload_n 0, 1) := by decide +kernel
theorem dX4_init_1 : decode cX4_init 1 = .ok (.invokespecial 3, 3) := by decide +kernel
theorem dX4_init_4 : decode cX4_init 4 = .ok (.aload_n 0, 1) := by decide +kernel
theorem dX4_init_5 : decode cX4_init 5 = .ok (.new 9, 3) := by decide +kernel
theorem dX4_init_8 : decode cX4_init 8 = .ok (.dup, 1) := by decide +kernel
theorem dX4_init_9 : decode cX4_init 9 = .ok (.bipush 12, 2) := by decide +kernel
theorem dX4_init_11 : decode cX4_init 11 = .ok (.sipush 400, 3) := by decide +kernel
theorem dX4_init_14 : decode cX4_init 14 = .ok (.invokespecial 11, 3) := by decide +kernel
theorem dX4_init_17 : decode cX4_init 17 = .ok (.putfield 14, 3) := by decide +kernel
theorem dX4_init_20 : decode cX4_init 20 = .ok (.aload_n 0, 1) := by decide +kernel
theorem dX4_init_21 : decode cX4_init 21 = .ok (.sipush 401, 3) := by decide +kernel
theorem dX4_init_24 : decode cX4_init 24 = .ok (.newarray .int, 2) := by decide +kernel
theorem dX4_init_26 : decode cX4_init 26 = .ok (.putfield 20, 3) := by decide +kernel
theorem dX4_init_29 : decode cX4_init 29 = .ok (.aload_n 0, 1) := by decide +kernel
theorem dX4_init_30 : decode cX4_init 30 = .ok (.sipush 401, 3) := by decide +kernel
theorem dX4_init_33 : decode cX4_init 33 = .ok (.newarray .int, 2) := by decide +kernel
theorem dX4_init_35 : decode cX4_init 35 = .ok (.putfield 24, 3) := by decide +kernel
theorem dX4_init_38 : decode cX4_init 38 = .ok (.aload_n 0, 1) := by decide +kernel
theorem dX4_init_39 : decode cX4_init 39 = .ok (.sipush 401, 3) := by decide +kernel
theorem dX4_init_42 : decode cX4_init 42 = .ok (.newarray .int, 2) := by decide +kernel
theorem dX4_init_44 : decode cX4_init 44 = .ok (.putfield 27, 3) := by decide +kernel
theorem dX4_init_47 : decode cX4_init 47 = .ok (.aload_n 0, 1) := by decide +kernel
theorem dX4_init_48 : decode cX4_init 48 = .ok (.iconst (-1), 1) := by decide +kernel
theorem dX4_init_49 : decode cX4_init 49 = .ok (.putfield 30, 3) := by decide +kernel
theorem dX4_init_52 : decode cX4_init 52 = .ok (.aload_n 0, 1) := by decide +kernel
theorem dX4_init_53 : decode cX4_init 53 = .ok (.aload_n 1, 1) := by decide +kernel
theorem dX4_init_54 : decode cX4_init 54 = .ok (.putfield 34, 3) := by decide +kernel
theorem dX4_init_57 : decode cX4_init 57 = .ok (.return_, 1) := by decide +kernel
theorem dX5_init_0 : decode cX5_init 0 = .ok (.aload_n 0, 1) := by decide +kernel
theorem dX5_init_1 : decode cX5_init 1 = .ok (.invokespecial 3, 3) := by decide +kernel
theorem dX5_init_4 : decode cX5_init 4 = .ok (.aload_n 0, 1) := by decide +kernel
theorem dX5_init_5 : decode cX5_init 5 = .ok (.bipush 50, 2) := by decide +kernel
theorem dX5_init_7 : decode cX5_init 7 = .ok (.newarray .long, 2) := by decide +kernel
theorem dX5_init_9 : decode cX5_init 9 = .ok (.putfield 9, 3) := by decide +kernel
theorem dX5_init_12 : decode cX5_init 12 = .ok (.return_, 1) := by decide +kernel
theorem dX6_init_0 : decode cX6_init 0 = .ok (.aload_n 0, 1) := by decide +kernel
theorem dX6_init_1 : decode cX6_init 1 = .ok (.invokespecial 3, 3) := by decide +kernel
theorem dX6_init_4 : decode cX6_init 4 = .ok (.aload_n 0, 1) := by decide +kernel
theorem dX6_init_5 : decode cX6_init 5 = .ok (.new 9, 3) := by decide +kernel
theorem dX6_init_8 : decode cX6_init 8 = .ok (.dup, 1) := by decide +kernel
theorem dX6_init_9 : decode cX6_init 9 = .ok (.invokespecial 11, 3) := by decide +kernel
theorem dX6_init_12 : decode cX6_init 12 = .ok (.putfield 12, 3) := by decide +kernel
theorem dX6_init_15 : decode cX6_init 15 = .ok (.aload_n 0, 1) := by decide +kernel
theorem dX6_init_16 : decode cX6_init 16 = .ok (.bipush 29, 2) := by decide +kernel
theorem dX6_init_18 : decode cX6_init 18 = .ok (.newarray .int, 2) := by decide +kernel
theorem dX6_init_20 : decode cX6_init 20 = .ok (.putfield 18, 3) := by decide +kernel
theorem dX6_init_23 : decode cX6_init 23 = .ok (.aload_n 0, 1) := by decide +kernel
theorem dX6_init_24 : decode cX6_init 24 = .ok (.iconst (-1), 1) := by decide +kernel
theorem dX6_init_25 : decode cX6_init 25 = .ok (.putfield 22, 3) := by decide +kernel
theorem dX6_init_28 : decode cX6_init 28 = .ok (.return_, 1) := by decide +kernel
theorem dX7_init_0 : decode cX7_init 0 = .ok (.aload_n 0, 1) := by decide +kernel
theorem dX7_init_1 : decode cX7_init 1 = .ok (.invokespecial 3, 3) := by decide +kernel
theorem dX7_init_4 : decode cX7_init 4 = .ok (.aload_n 0, 1) := by decide +kernel
theorem dX7_init_5 : decode cX7_init 5 = .ok (.bipush 6, 2) := by decide +kernel
theorem dX7_init_7 : decode cX7_init 7 = .ok (.newarray .int, 2) := by decide +kernel
theorem dX7_init_9 : decode cX7_init 9 = .ok (.putfield 9, 3) := by decide +kernel
theorem dX7_init_12 : decode cX7_init 12 = .ok (.aload_n 0, 1) := by decide +kernel
theorem dX7_init_13 : decode cX7_init 13 = .ok (.bipush 6, 2) := by decide +kernel
theorem dX7_init_15 : decode cX7_init 15 = .ok (.newarray .int, 2) := by decide +kernel
theorem dX7_init_17 : decode cX7_init 17 = .ok (.putfield 15, 3) := by decide +kernel
theorem dX7_init_20 : decode cX7_init 20 = .ok (.aload_n 0, 1) := by decide +kernel
theorem dX7_init_21 : decode cX7_init 21 = .ok (.bipush 8, 2) := by decide +kernel
theorem dX7_init_23 : decode cX7_init 23 = .ok (.newarray .int, 2) := by decide +kernel
theorem dX7_init_25 : decode cX7_init 25 = .ok (.putfield 18, 3) := by decide +kernel
theorem dX7_init_28 : decode cX7_init 28 = .ok (.aload_n 0, 1) := by decide +kernel
theorem dX7_init_29 : decode cX7_init 29 = .ok (.bipush 16, 2) := by decide +kernel
theorem dX7_init_31 : decode cX7_init 31 = .ok (.newarray .int, 2) := by decide +kernel
theorem dX7_init_33 : decode cX7_init 33 = .ok (.putfield 21, 3) := by decide +kernel
theorem dX7_init_36 : decode cX7_init 36 = .ok (.aload_n 0, 1) := by decide +kernel
theorem dX7_init_37 : decode cX7_init 37 = .ok (.bipush 6, 2) := by decide +kernel
theorem dX7_init_39 : decode cX7_init 39 = .ok (.newarray .int, 2) := by decide +kernel
theorem dX7_init_41 : decode cX7_init 41 = .ok (.putfield 24, 3) := by decide +kernel
theorem dX7_init_44 : decode cX7_init 44 = .ok (.aload_n 0, 1) := by decide +kernel
theorem dX7_init_45 : decode cX7_init 45 = .ok (.bipush 6, 2) := by decide +kernel
theorem dX7_init_47 : decode cX7_init 47 = .ok (.anewarray 27, 3) := by decide +kernel
theorem dX7_init_50 : decode cX7_init 50 = .ok (.putfield 29, 3) := by decide +kernel
theorem dX7_init_53 : decode cX7_init 53 = .ok (.aload_n 0, 1) := by decide +kernel
theorem dX7_init_54 : decode cX7_init 54 = .ok (.iconst (-1), 1) := by decide +kernel
theorem dX7_init_55 : decode cX7_init 55 = .ok (.putfield 33, 3) := by decide +kernel
theorem dX7_init_58 : decode cX7_init 58 = .ok (.aload_n 0, 1) := by decide +kernel
theorem dX7_init_59 : decode cX7_init 59 = .ok (.iconst 3, 1) := by decide +kernel
theorem dX7_init_60 : decode cX7_init 60 = .ok (.newarray .int, 2) := by decide +kernel
theorem dX7_init_62 : decode cX7_init 62 = .ok (.putfield 37, 3) := by decide +kernel
theorem dX7_init_65 : decode cX7_init 65 = .ok (.aload_n 0, 1) := by decide +kernel
theorem dX7_init_66 : decode cX7_init 66 = .ok (.getfield 18, 3) := by decide +kernel
theorem dX7_init_69 : decode cX7_init 69 = .ok (.iconst (-1), 1) := by decide +kernel
theorem dX7_init_70 : decode cX7_init 70 = .ok (.invokestatic 40, 3) := by decide +kernel
theorem dX7_init_73 : decode cX7_init 73 = .ok (.aload_n 0, 1) := by decide +kernel
theorem dX7_init_74 : decode cX7_init 74 = .ok (.getfield 37, 3) := by decide +kernel
theorem dX7_init_77 : decode cX7_init 77 = .ok (.iconst 1, 1) := by decide +kernel
theorem dX7_init_78 : decode cX7_init 78 = .ok (.iconst 1, 1) := by decide +kernel
theorem dX7_init_79 : decode cX7_init 79 = .ok (.iastore, 1) := by decide +kernel
theorem dX7_init_80 : decode cX7_init 80 = .ok (.return_, 1) := by decide +kernel
theorem dX8_init_0 : decode cX8_init 0 = .ok (.aload_n 0, 1) := by decide +kernel
theorem dX8_init_1 : decode cX8_init 1 = .ok (.invokespecial 3, 3) := by decide +kernel
theorem dX8_init_4 : decode cX8_init 4 = .ok (.aload_n 0, 1) := by decide +kernel
theorem dX8_init_5 : decode cX8_init 5 = .ok (.sipush 400, 3) := by decide +kernel
theorem dX8_init_8 : decode cX8_init 8 = .ok (.newarray .byte, 2) := by decide +kernel
theorem dX8_init_10 : decode cX8_init 10 = .ok (.putfield 9, 3) := by decide +kernel
theorem dX8_init_13 : decode cX8_init 13 = .ok (.return_, 1) := by decide +kernel
theorem dX9_init_0 : decode cX9_init 0 = .ok (.aload_n 0, 1) := by decide +kernel
theorem dX9_init_1 : decode cX9_init 1 = .ok (.invokespecial 3, 3) := by decide +kernel
theorem dX9_init_4 : decode cX9_init 4 = .ok (.aload_n 0, 1) := by decide +kernel
theorem dX9_init_5 : decode cX9_init 5 = .ok (.iload_n 1, 1) := by decide +kernel
theorem dX9_init_6 : decode cX9_init 6 = .ok (.iconst 0, 1) := by decide +kernel
theorem dX9_init_7 : decode cX9_init 7 = .ok (.invokestatic 9, 3) := by decide +kernel
theorem dX9_init_10 : decode cX9_init 10 = .ok (.newarray .int, 2) := by decide +kernel
theorem dX9_init_12 : decode cX9_init 12 = .ok (.putfield 15, 3) := by decide +kernel
theorem dX9_init_15 : decode cX9_init 15 = .ok (.aload_n 0, 1) := by decide +kernel
theorem dX9_init_16 : decode cX9_init 16 = .ok (.iload_n 1, 1) := by decide +kernel
theorem dX9_init_17 : decode cX9_init 17 = .ok (.iconst 0, 1) := by decide +kernel
theorem dX9_init_18 : decode cX9_init 18 = .ok (.invokestatic 9, 3) := by decide +kernel
theorem dX9_init_21 : decode cX9_init 21 = .ok (.newarray .int, 2) := by decide +kernel
theorem dX9_init_23 : decode cX9_init 23 = .ok (.putfield 21, 3) := by decide +kernel
theorem dX9_init_26 : decode cX9_init 26 = .ok (.aload_n 0, 1) := by decide +kernel
theorem dX9_init_27 : decode cX9_init 27 = .ok (.iload_n 1, 1) := by decide +kernel
theorem dX9_init_28 : decode cX9_init 28 = .ok (.iconst 0, 1) := by decide +kernel
theorem dX9_init_29 : decode cX9_init 29 = .ok (.invokestatic 9, 3) := by decide +kernel
theorem dX9_init_32 : decode cX9_init 32 = .ok (.newarray .int, 2) := by decide +kernel
theorem dX9_init_34 : decode cX9_init 34 = .ok (.putfield 24, 3) := by decide +kernel
theorem dX9_init_37 : decode cX9_init 37 = .ok (.aload_n 0, 1) := by decide +kernel
theorem dX9_init_38 : decode cX9_init 38 = .ok (.iload_n 1, 1) := by decide +kernel
theorem dX9_init_39 : decode cX9_init 39 = .ok (.iconst 0, 1) := by decide +kernel
theorem dX9_init_40 : decode cX9_init 40 = .ok (.invokestatic 9, 3) := by decide +kernel
theorem dX9_init_43 : decode cX9_init 43 = .ok (.newarray .int, 2) := by decide +kernel
theorem dX9_init_45 : decode cX9_init 45 = .ok (.putfield 27, 3) := by decide +kernel
theorem dX9_init_48 : decode cX9_init 48 = .ok (.aload_n 0, 1) := by decide +kernel
theorem dX9_init_49 : decode cX9_init 49 = .ok (.iload_n 1, 1) := by decide +kernel
theorem dX9_init_50 : decode cX9_init 50 = .ok (.iconst 0, 1) := by decide +kernel
theorem dX9_init_51 : decode cX9_init 51 = .ok (.invokestatic 9, 3) := by decide +kernel
theorem dX9_init_54 : decode cX9_init 54 = .ok (.newarray .int, 2) := by decide +kernel
theorem dX9_init_56 : decode cX9_init 56 = .ok (.putfield 30, 3) := by decide +kernel
theorem dX9_init_59 : decode cX9_init 59 = .ok (.aload_n 0, 1) := by decide +kernel
theorem dX9_init_60 : decode cX9_init 60 = .ok (.iload_n 2, 1) := by decide +kernel
theorem dX9_init_61 : decode cX9_init 61 = .ok (.iconst 0, 1) := by decide +kernel
theorem dX9_init_62 : decode cX9_init 62 = .ok (.invokestatic 9, 3) := by decide +kernel
theorem dX9_init_65 : decode cX9_init 65 = .ok (.newarray .int, 2) := by decide +kernel
theorem dX9_init_67 : decode cX9_init 67 = .ok (.putfield 33, 3) := by decide +kernel
theorem dX9_init_70 : decode cX9_init 70 = .ok (.return_, 1) := by decide +kernel
