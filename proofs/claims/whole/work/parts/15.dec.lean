theorem dX1_clear_0 : decode cX1_clear 0 = .ok (.aload_n 0, 1) := by decide +kernel
theorem dX1_clear_1 : decode cX1_clear 1 = .ok (.iconst 0, 1) := by decide +kernel
theorem dX1_clear_2 : decode cX1_clear 2 = .ok (.putfield 24, 3) := by decide +kernel
theorem dX1_clear_5 : decode cX1_clear 5 = .ok (.aload_n 0, 1) := by decide +kernel
theorem dX1_clear_6 : decode cX1_clear 6 = .ok (.iconst 0, 1) := by decide +kernel
theorem dX1_clear_7 : decode cX1_clear 7 = .ok (.putfield 28, 3) := by decide +kernel
theorem dX1_clear_10 : decode cX1_clear 10 = .ok (.return_, 1) := by decide +kernel
theorem dX1_becomeNumber_0 : decode cX1_becomeNumber 0 = .ok (.aload_n 0, 1) := by decide +kernel
theorem dX1_becomeNumber_1 : decode cX1_becomeNumber 1 = .ok (.invokevirtual 35, 3) := by decide +kernel
theorem dX1_becomeNumber_4 : decode cX1_becomeNumber 4 = .ok (.aload_n 0, 1) := by decide +kernel
theorem dX1_becomeNumber_5 : decode cX1_becomeNumber 5 = .ok (.iload_n 1, 1) := by decide +kernel
theorem dX1_becomeNumber_6 : decode cX1_becomeNumber 6 = .ok (.invokevirtual 38, 3) := by decide +kernel
theorem dX1_becomeNumber_9 : decode cX1_becomeNumber 9 = .ok (.aload_n 0, 1) := by decide +kernel
theorem dX1_becomeNumber_10 : decode cX1_becomeNumber 10 = .ok (.invokevirtual 42, 3) := by decide +kernel
theorem dX1_becomeNumber_13 : decode cX1_becomeNumber 13 = .ok (.return_, 1) := by decide +kernel
theorem dX1_addCode_0 : decode cX1_addCode 0 = .ok (.aload_n 0, 1) := by decide +kernel
theorem dX1_addCode_1 : decode cX1_addCode 1 = .ok (.getfield 24, 3) := by decide +kernel
theorem dX1_addCode_4 : decode cX1_addCode 4 = .ok (.sipush 400, 3) := by decide +kernel
theorem dX1_addCode_7 : decode cX1_addCode 7 = .ok (.if_icmp .ge 23, 3) := by decide +kernel
theorem dX1_addCode_10 : decode cX1_addCode 10 = .ok (.aload_n 0, 1) := by decide +kernel
theorem dX1_addCode_11 : decode cX1_addCode 11 = .ok (.getfield 15, 3) := by decide +kernel
theorem dX1_addCode_14 : decode cX1_addCode 14 = .ok (.aload_n 0, 1) := by decide +kernel
theorem dX1_addCode_15 : decode cX1_addCode 15 = .ok (.getfield 24, 3) := by decide +kernel
theorem dX1_addCode_18 : decode cX1_addCode 18 = .ok (.iload_n 1, 1) := by decide +kernel
theorem dX1_addCode_19 : decode cX1_addCode 19 = .ok (.iastore, 1) := by decide +kernel
theorem dX1_addCode_20 : decode cX1_addCode 20 = .ok (.aload_n 0, 1) := by decide +kernel
theorem dX1_addCode_21 : decode cX1_addCode 21 = .ok (.dup, 1) := by decide +kernel
theorem dX1_addCode_22 : decode cX1_addCode 22 = .ok (.getfield 24, 3) := by decide +kernel
theorem dX1_addCode_25 : decode cX1_addCode 25 = .ok (.iconst 1, 1) := by decide +kernel
theorem dX1_addCode_26 : decode cX1_addCode 26 = .ok (.iadd, 1) := by decide +kernel
theorem dX1_addCode_27 : decode cX1_addCode 27 = .ok (.putfield 24, 3) := by decide +kernel
theorem dX1_addCode_30 : decode cX1_addCode 30 = .ok (.return_, 1) := by decide +kernel
theorem dX1_endPiece_0 : decode cX1_endPiece 0 = .ok (.aload_n 0, 1) := by decide +kernel
theorem dX1_endPiece_1 : decode cX1_endPiece 1 = .ok (.getfield 28, 3) := by decide +kernel
theorem dX1_endPiece_4 : decode cX1_endPiece 4 = .ok (.bipush 13, 2) := by decide +kernel
theorem dX1_endPiece_6 : decode cX1_endPiece 6 = .ok (.if_icmp .ge 26, 3) := by decide +kernel
theorem dX1_endPiece_9 : decode cX1_endPiece 9 = .ok (.aload_n 0, 1) := by decide +kernel
theorem dX1_endPiece_10 : decode cX1_endPiece 10 = .ok (.getfield 18, 3) := by decide +kernel
theorem dX1_endPiece_13 : decode cX1_endPiece 13 = .ok (.aload_n 0, 1) := by decide +kernel
theorem dX1_endPiece_14 : decode cX1_endPiece 14 = .ok (.getfield 28, 3) := by decide +kernel
theorem dX1_endPiece_17 : decode cX1_endPiece 17 = .ok (.aload_n 0, 1) := by decide +kernel
theorem dX1_endPiece_18 : decode cX1_endPiece 18 = .ok (.getfield 24, 3) := by decide +kernel
theorem dX1_endPiece_21 : decode cX1_endPiece 21 = .ok (.iastore, 1) := by decide +kernel
theorem dX1_endPiece_22 : decode cX1_endPiece 22 = .ok (.aload_n 0, 1) := by decide +kernel
theorem dX1_endPiece_23 : decode cX1_endPiece 23 = .ok (.dup, 1) := by decide +kernel
theorem dX1_endPiece_24 : decode cX1_endPiece 24 = .ok (.getfield 28, 3) := by decide +kernel
theorem dX1_endPiece_27 : decode cX1_endPiece 27 = .ok (.iconst 1, 1) := by decide +kernel
theorem dX1_endPiece_28 : decode cX1_endPiece 28 = .ok (.iadd, 1) := by decide +kernel
theorem dX1_endPiece_29 : decode cX1_endPiece 29 = .ok (.putfield 28, 3) := by decide +kernel
theorem dX1_endPiece_32 : decode cX1_endPiece 32 = .ok (.return_, 1) := by decide +kernel
theorem dX1_tells_0 : decode cX1_tells 0 = .ok (.aload_n 0, 1) := by decide +kernel
theorem dX1_tells_1 : decode cX1_tells 1 = .ok (.iconst 0, 1) := by decide +kernel
theorem dX1_tells_2 : decode cX1_tells 2 = .ok (.putfield 31, 3) := by decide +kernel
theorem dX1_tells_5 : decode cX1_tells 5 = .ok (.aload_n 0, 1) := by decide +kernel
theorem dX1_tells_6 : decode cX1_tells 6 = .ok (.getfield 28, 3) := by decide +kernel
theorem dX1_tells_9 : decode cX1_tells 9 = .ok (.iconst 1, 1) := by decide +kernel
theorem dX1_tells_10 : decode cX1_tells 10 = .ok (.isub, 1) := by decide +kernel
theorem dX1_tells_11 : decode cX1_tells 11 = .ok (.istore_n 1, 1) := by decide +kernel
theorem dX1_tells_12 : decode cX1_tells 12 = .ok (.iconst 0, 1) := by decide +kernel
theorem dX1_tells_13 : decode cX1_tells 13 = .ok (.istore_n 2, 1) := by decide +kernel
theorem dX1_tells_14 : decode cX1_tells 14 = .ok (.iload_n 2, 1) := by decide +kernel
theorem dX1_tells_15 : decode cX1_tells 15 = .ok (.iconst 2, 1) := by decide +kernel
theorem dX1_tells_16 : decode cX1_tells 16 = .ok (.iadd, 1) := by decide +kernel
theorem dX1_tells_17 : decode cX1_tells 17 = .ok (.iload_n 1, 1) := by decide +kernel
theorem dX1_tells_18 : decode cX1_tells 18 = .ok (.if_icmp .ge 51, 3) := by decide +kernel
theorem dX1_tells_21 : decode cX1_tells 21 = .ok (.aload_n 0, 1) := by decide +kernel
theorem dX1_tells_22 : decode cX1_tells 22 = .ok (.iload_n 2, 1) := by decide +kernel
theorem dX1_tells_23 : decode cX1_tells 23 = .ok (.invokevirtual 45, 3) := by decide +kernel
theorem dX1_tells_26 : decode cX1_tells 26 = .ok (.istore_n 3, 1) := by decide +kernel
theorem dX1_tells_27 : decode cX1_tells 27 = .ok (.aload_n 0, 1) := by decide +kernel
theorem dX1_tells_28 : decode cX1_tells 28 = .ok (.iload_n 2, 1) := by decide +kernel
theorem dX1_tells_29 : decode cX1_tells 29 = .ok (.iconst 1, 1) := by decide +kernel
theorem dX1_tells_30 : decode cX1_tells 30 = .ok (.iadd, 1) := by decide +kernel
theorem dX1_tells_31 : decode cX1_tells 31 = .ok (.invokevirtual 45, 3) := by decide +kernel
theorem dX1_tells_34 : decode cX1_tells 34 = .ok (.istore 4, 2) := by decide +kernel
theorem dX1_tells_36 : decode cX1_tells 36 = .ok (.aload_n 0, 1) := by decide +kernel
theorem dX1_tells_37 : decode cX1_tells 37 = .ok (.getfield 31, 3) := by decide +kernel
theorem dX1_tells_40 : decode cX1_tells 40 = .ok (.ifCond .eq 5, 3) := by decide +kernel
theorem dX1_tells_43 : decode cX1_tells 43 = .ok (.iconst 0, 1) := by decide +kernel
theorem dX1_tells_44 : decode cX1_tells 44 = .ok (.ireturn, 1) := by decide +kernel
theorem dX1_tells_45 : decode cX1_tells 45 = .ok (.iload_n 3, 1) := by decide +kernel
theorem dX1_tells_46 : decode cX1_tells 46 = .ok (.iload 4, 2) := by decide +kernel
theorem dX1_tells_48 : decode cX1_tells 48 = .ok (.if_icmp .ge 15, 3) := by decide +kernel
theorem dX1_tells_51 : decode cX1_tells 51 = .ok (.aload_n 0, 1) := by decide +kernel
theorem dX1_tells_52 : decode cX1_tells 52 = .ok (.aload_n 0, 1) := by decide +kernel
theorem dX1_tells_53 : decode cX1_tells 53 = .ok (.iload_n 2, 1) := by decide +kernel
theorem dX1_tells_54 : decode cX1_tells 54 = .ok (.iconst 2, 1) := by decide +kernel
theorem dX1_tells_55 : decode cX1_tells 55 = .ok (.iadd, 1) := by decide +kernel
theorem dX1_tells_56 : decode cX1_tells 56 = .ok (.invokevirtual 45, 3) := by decide +kernel
theorem dX1_tells_59 : decode cX1_tells 59 = .ok (.invokevirtual 49, 3) := by decide +kernel
theorem dX1_tells_62 : decode cX1_tells 62 = .ok (.ireturn, 1) := by decide +kernel
theorem dX1_tells_63 : decode cX1_tells 63 = .ok (.iinc 2 3, 3) := by decide +kernel
theorem dX1_tells_66 : decode cX1_tells 66 = .ok (.goto (-52), 3) := by decide +kernel
theorem dX1_tells_69 : decode cX1_tells 69 = .ok (.aload_n 0, 1) := by decide +kernel
theorem dX1_tells_70 : decode cX1_tells 70 = .ok (.aload_n 0, 1) := by decide +kernel
theorem dX1_tells_71 : decode cX1_tells 71 = .ok (.iload_n 1, 1) := by decide +kernel
theorem dX1_tells_72 : decode cX1_tells 72 = .ok (.invokevirtual 45, 3) := by decide +kernel
theorem dX1_tells_75 : decode cX1_tells 75 = .ok (.invokevirtual 49, 3) := by decide +kernel
theorem dX1_tells_78 : decode cX1_tells 78 = .ok (.ireturn, 1) := by decide +kernel
theorem dX1_whole_0 : decode cX1_whole 0 = .ok (.aload_n 0, 1) := by decide +kernel
theorem dX1_whole_1 : decode cX1_whole 1 = .ok (.getfield 31, 3) := by decide +kernel
theorem dX1_whole_4 : decode cX1_whole 4 = .ok (.ifCond .eq 7, 3) := by decide +kernel
theorem dX1_whole_7 : decode cX1_whole 7 = .ok (.iconst 0, 1) := by decide +kernel
theorem dX1_whole_8 : decode cX1_whole 8 = .ok (.goto 4, 3) := by decide +kernel
theorem dX1_whole_11 : decode cX1_whole 11 = .ok (.iload_n 1, 1) := by decide +kernel
theorem dX1_whole_12 : decode cX1_whole 12 = .ok (.ireturn, 1) := by decide +kernel
theorem dX1_value_0 : decode cX1_value 0 = .ok (.iload_n 1, 1) := by decide +kernel
theorem dX1_value_1 : decode cX1_value 1 = .ok (.ifCond .lt 11, 3) := by decide +kernel
theorem dX1_value_4 : decode cX1_value 4 = .ok (.iload_n 1, 1) := by decide +kernel
theorem dX1_value_5 : decode cX1_value 5 = .ok (.aload_n 0, 1) := by decide +kernel
theorem dX1_value_6 : decode cX1_value 6 = .ok (.getfield 28, 3) := by decide +kernel
theorem dX1_value_9 : decode cX1_value 9 = .ok (.if_icmp .lt 5, 3) := by decide +kernel
theorem dX1_value_12 : decode cX1_value 12 = .ok (.iconst 0, 1) := by decide +kernel
theorem dX1_value_13 : decode cX1_value 13 = .ok (.ireturn, 1) := by decide +kernel
theorem dX1_value_14 : decode cX1_value 14 = .ok (.iconst 0, 1) := by decide +kernel
theorem dX1_value_15 : decode cX1_value 15 = .ok (.istore_n 2, 1) := by decide +kernel
theorem dX1_value_16 : decode cX1_value 16 = .ok (.iload_n 1, 1) := by decide +kernel
theorem dX1_value_17 : decode cX1_value 17 = .ok (.ifCond .ne 7, 3) := by decide +kernel
theorem dX1_value_20 : decode cX1_value 20 = .ok (.iconst 0, 1) := by decide +kernel
theorem dX1_value_21 : decode cX1_value 21 = .ok (.goto 11, 3) := by decide +kernel
theorem dX1_value_24 : decode cX1_value 24 = .ok (.aload_n 0, 1) := by decide +kernel
theorem dX1_value_25 : decode cX1_value 25 = .ok (.getfield 18, 3) := by decide +kernel
theorem dX1_value_28 : decode cX1_value 28 = .ok (.iload_n 1, 1) := by decide +kernel
theorem dX1_value_29 : decode cX1_value 29 = .ok (.iconst 1, 1) := by decide +kernel
theorem dX1_value_30 : decode cX1_value 30 = .ok (.isub, 1) := by decide +kernel
theorem dX1_value_31 : decode cX1_value 31 = .ok (.iaload, 1) := by decide +kernel
theorem dX1_value_32 : decode cX1_value 32 = .ok (.istore_n 3, 1) := by decide +kernel
theorem dX1_value_33 : decode cX1_value 33 = .ok (.iload_n 3, 1) := by decide +kernel
theorem dX1_value_34 : decode cX1_value 34 = .ok (.aload_n 0, 1) := by decide +kernel
theorem dX1_value_35 : decode cX1_value 35 = .ok (.getfield 18, 3) := by decide +kernel
theorem dX1_value_38 : decode cX1_value 38 = .ok (.iload_n 1, 1) := by decide +kernel
theorem dX1_value_39 : decode cX1_value 39 = .ok (.iaload, 1) := by decide +kernel
theorem dX1_value_40 : decode cX1_value 40 = .ok (.if_icmp .ge 201, 3) := by decide +kernel
theorem dX1_value_43 : decode cX1_value 43 = .ok (.aload_n 0, 1) := by decide +kernel
theorem dX1_value_44 : decode cX1_value 44 = .ok (.getfield 15, 3) := by decide +kernel
theorem dX1_value_47 : decode cX1_value 47 = .ok (.iload_n 3, 1) := by decide +kernel
theorem dX1_value_48 : decode cX1_value 48 = .ok (.iaload, 1) := by decide +kernel
theorem dX1_value_49 : decode cX1_value 49 = .ok (.istore 4, 2) := by decide +kernel
theorem dX1_value_51 : decode cX1_value 51 = .ok (.iload 4, 2) := by decide +kernel
theorem dX1_value_53 : decode cX1_value 53 = .ok (.sipush 10100, 3) := by decide +kernel
theorem dX1_value_56 : decode cX1_value 56 = .ok (.if_icmp .ge 45, 3) := by decide +kernel
theorem dX1_value_59 : decode cX1_value 59 = .ok (.iload_n 2, 1) := by decide +kernel
theorem dX1_value_60 : decode cX1_value 60 = .ok (.bipush 32, 2) := by decide +kernel
theorem dX1_value_62 : decode cX1_value 62 = .ok (.if_icmp .ge 39, 3) := by decide +kernel
theorem dX1_value_65 : decode cX1_value 65 = .ok (.aload_n 0, 1) := by decide +kernel
theorem dX1_value_66 : decode cX1_value 66 = .ok (.getfield 21, 3) := by decide +kernel
theorem dX1_value_69 : decode cX1_value 69 = .ok (.iload_n 2, 1) := by decide +kernel
theorem dX1_value_70 : decode cX1_value 70 = .ok (.iload 4, 2) := by decide +kernel
theorem dX1_value_72 : decode cX1_value 72 = .ok (.sipush 10000, 3) := by decide +kernel
theorem dX1_value_75 : decode cX1_value 75 = .ok (.if_icmp .ge 8, 3) := by decide +kernel
theorem dX1_value_78 : decode cX1_value 78 = .ok (.iload 4, 2) := by decide +kernel
theorem dX1_value_80 : decode cX1_value 80 = .ok (.goto 14, 3) := by decide +kernel
theorem dX1_value_83 : decode cX1_value 83 = .ok (.aload_n 0, 1) := by decide +kernel
theorem dX1_value_84 : decode cX1_value 84 = .ok (.getfield 9, 3) := by decide +kernel
theorem dX1_value_87 : decode cX1_value 87 = .ok (.iload 4, 2) := by decide +kernel
theorem dX1_value_89 : decode cX1_value 89 = .ok (.sipush 10000, 3) := by decide +kernel
theorem dX1_value_92 : decode cX1_value 92 = .ok (.isub, 1) := by decide +kernel
theorem dX1_value_93 : decode cX1_value 93 = .ok (.iaload, 1) := by decide +kernel
theorem dX1_value_94 : decode cX1_value 94 = .ok (.iastore, 1) := by decide +kernel
theorem dX1_value_95 : decode cX1_value 95 = .ok (.iinc 2 1, 3) := by decide +kernel
theorem dX1_value_98 : decode cX1_value 98 = .ok (.goto 137, 3) := by decide +kernel
theorem dX1_value_101 : decode cX1_value 101 = .ok (.iload 4, 2) := by decide +kernel
theorem dX1_value_103 : decode cX1_value 103 = .ok (.sipush 10100, 3) := by decide +kernel
theorem dX1_value_106 : decode cX1_value 106 = .ok (.if_icmp .lt 129, 3) := by decide +kernel
theorem dX1_value_109 : decode cX1_value 109 = .ok (.iload_n 2, 1) := by decide +kernel
theorem dX1_value_110 : decode cX1_value 110 = .ok (.iconst 2, 1) := by decide +kernel
theorem dX1_value_111 : decode cX1_value 111 = .ok (.if_icmp .lt 124, 3) := by decide +kernel
theorem dX1_value_114 : decode cX1_value 114 = .ok (.iinc 2 (-1), 3) := by decide +kernel
theorem dX1_value_117 : decode cX1_value 117 = .ok (.aload_n 0, 1) := by decide +kernel
theorem dX1_value_118 : decode cX1_value 118 = .ok (.getfield 21, 3) := by decide +kernel
theorem dX1_value_121 : decode cX1_value 121 = .ok (.iload_n 2, 1) := by decide +kernel
theorem dX1_value_122 : decode cX1_value 122 = .ok (.iconst 1, 1) := by decide +kernel
theorem dX1_value_123 : decode cX1_value 123 = .ok (.isub, 1) := by decide +kernel
theorem dX1_value_124 : decode cX1_value 124 = .ok (.iaload, 1) := by decide +kernel
theorem dX1_value_125 : decode cX1_value 125 = .ok (.istore 5, 2) := by decide +kernel
theorem dX1_value_127 : decode cX1_value 127 = .ok (.aload_n 0, 1) := by decide +kernel
theorem dX1_value_128 : decode cX1_value 128 = .ok (.getfield 21, 3) := by decide +kernel
theorem dX1_value_131 : decode cX1_value 131 = .ok (.iload_n 2, 1) := by decide +kernel
theorem dX1_value_132 : decode cX1_value 132 = .ok (.iaload, 1) := by decide +kernel
theorem dX1_value_133 : decode cX1_value 133 = .ok (.istore 6, 2) := by decide +kernel
theorem dX1_value_135 : decode cX1_value 135 = .ok (.iload 4, 2) := by decide +kernel
theorem dX1_value_137 : decode cX1_value 137 = .ok (.sipush 10100, 3) := by decide +kernel
theorem dX1_value_140 : decode cX1_value 140 = .ok (.if_icmp .ne 19, 3) := by decide +kernel
theorem dX1_value_143 : decode cX1_value 143 = .ok (.aload_n 0, 1) := by decide +kernel
theorem dX1_value_144 : decode cX1_value 144 = .ok (.getfield 21, 3) := by decide +kernel
theorem dX1_value_147 : decode cX1_value 147 = .ok (.iload_n 2, 1) := by decide +kernel
theorem dX1_value_148 : decode cX1_value 148 = .ok (.iconst 1, 1) := by decide +kernel
theorem dX1_value_149 : decode cX1_value 149 = .ok (.isub, 1) := by decide +kernel
theorem dX1_value_150 : decode cX1_value 150 = .ok (.iload 5, 2) := by decide +kernel
theorem dX1_value_152 : decode cX1_value 152 = .ok (.iload 6, 2) := by decide +kernel
theorem dX1_value_154 : decode cX1_value 154 = .ok (.iadd, 1) := by decide +kernel
theorem dX1_value_155 : decode cX1_value 155 = .ok (.iastore, 1) := by decide +kernel
theorem dX1_value_156 : decode cX1_value 156 = .ok (.goto 79, 3) := by decide +kernel
theorem dX1_value_159 : decode cX1_value 159 = .ok (.iload 4, 2) := by decide +kernel
theorem dX1_value_161 : decode cX1_value 161 = .ok (.sipush 10101, 3) := by decide +kernel
theorem dX1_value_164 : decode cX1_value 164 = .ok (.if_icmp .ne 19, 3) := by decide +kernel
theorem dX1_value_167 : decode cX1_value 167 = .ok (.aload_n 0, 1) := by decide +kernel
theorem dX1_value_168 : decode cX1_value 168 = .ok (.getfield 21, 3) := by decide +kernel
theorem dX1_value_171 : decode cX1_value 171 = .ok (.iload_n 2, 1) := by decide +kernel
theorem dX1_value_172 : decode cX1_value 172 = .ok (.iconst 1, 1) := by decide +kernel
theorem dX1_value_173 : decode cX1_value 173 = .ok (.isub, 1) := by decide +kernel
theorem dX1_value_174 : decode cX1_value 174 = .ok (.iload 5, 2) := by decide +kernel
theorem dX1_value_176 : decode cX1_value 176 = .ok (.iload 6, 2) := by decide +kernel
theorem dX1_value_178 : decode cX1_value 178 = .ok (.isub, 1) := by decide +kernel
theorem dX1_value_179 : decode cX1_value 179 = .ok (.iastore, 1) := by decide +kernel
theorem dX1_value_180 : decode cX1_value 180 = .ok (.goto 55, 3) := by decide +kernel
theorem dX1_value_183 : decode cX1_value 183 = .ok (.iload 4, 2) := by decide +kernel
theorem dX1_value_185 : decode cX1_value 185 = .ok (.sipush 10102, 3) := by decide +kernel
theorem dX1_value_188 : decode cX1_value 188 = .ok (.if_icmp .ne 19, 3) := by decide +kernel
theorem dX1_value_191 : decode cX1_value 191 = .ok (.aload_n 0, 1) := by decide +kernel
theorem dX1_value_192 : decode cX1_value 192 = .ok (.getfield 21, 3) := by decide +kernel
theorem dX1_value_195 : decode cX1_value 195 = .ok (.iload_n 2, 1) := by decide +kernel
theorem dX1_value_196 : decode cX1_value 196 = .ok (.iconst 1, 1) := by decide +kernel
theorem dX1_value_197 : decode cX1_value 197 = .ok (.isub, 1) := by decide +kernel
theorem dX1_value_198 : decode cX1_value 198 = .ok (.iload 5, 2) := by decide +kernel
theorem dX1_value_200 : decode cX1_value 200 = .ok (.iload 6, 2) := by decide +kernel
theorem dX1_value_202 : decode cX1_value 202 = .ok (.imul, 1) := by decide +kernel
theorem dX1_value_203 : decode cX1_value 203 = .ok (.iastore, 1) := by decide +kernel
theorem dX1_value_204 : decode cX1_value 204 = .ok (.goto 31, 3) := by decide +kernel
theorem dX1_value_207 : decode cX1_value 207 = .ok (.iload 6, 2) := by decide +kernel
theorem dX1_value_209 : decode cX1_value 209 = .ok (.ifCond .eq 19, 3) := by decide +kernel
theorem dX1_value_212 : decode cX1_value 212 = .ok (.aload_n 0, 1) := by decide +kernel
theorem dX1_value_213 : decode cX1_value 213 = .ok (.getfield 21, 3) := by decide +kernel
theorem dX1_value_216 : decode cX1_value 216 = .ok (.iload_n 2, 1) := by decide +kernel
theorem dX1_value_217 : decode cX1_value 217 = .ok (.iconst 1, 1) := by decide +kernel
theorem dX1_value_218 : decode cX1_value 218 = .ok (.isub, 1) := by decide +kernel
theorem dX1_value_219 : decode cX1_value 219 = .ok (.iload 5, 2) := by decide +kernel
theorem dX1_value_221 : decode cX1_value 221 = .ok (.iload 6, 2) := by decide +kernel
theorem dX1_value_223 : decode cX1_value 223 = .ok (.idiv, 1) := by decide +kernel
theorem dX1_value_224 : decode cX1_value 224 = .ok (.iastore, 1) := by decide +kernel
theorem dX1_value_225 : decode cX1_value 225 = .ok (.goto 10, 3) := by decide +kernel
theorem dX1_value_228 : decode cX1_value 228 = .ok (.aload_n 0, 1) := by decide +kernel
theorem dX1_value_229 : decode cX1_value 229 = .ok (.iconst 1, 1) := by decide +kernel
theorem dX1_value_230 : decode cX1_value 230 = .ok (.putfield 31, 3) := by decide +kernel
theorem dX1_value_233 : decode cX1_value 233 = .ok (.iconst 0, 1) := by decide +kernel
theorem dX1_value_234 : decode cX1_value 234 = .ok (.ireturn, 1) := by decide +kernel
theorem dX1_value_235 : decode cX1_value 235 = .ok (.iinc 3 1, 3) := by decide +kernel
theorem dX1_value_238 : decode cX1_value 238 = .ok (.goto (-205), 3) := by decide +kernel
theorem dX1_value_241 : decode cX1_value 241 = .ok (.aload_n 0, 1) := by decide +kernel
theorem dX1_value_242 : decode cX1_value 242 = .ok (.getfield 21, 3) := by decide +kernel
theorem dX1_value_245 : decode cX1_value 245 = .ok (.iconst 0, 1) := by decide +kernel
theorem dX1_value_246 : decode cX1_value 246 = .ok (.iaload, 1) := by decide +kernel
theorem dX1_value_247 : decode cX1_value 247 = .ok (.ireturn, 1) := by decide +kernel
theorem dX5_clear_0 : decode cX5_clear 0 = .ok (.aload_n 0, 1) := by decide +kernel
theorem dX5_clear_1 : decode cX5_clear 1 = .ok (.iconst 0, 1) := by decide +kernel
theorem dX5_clear_2 : decode cX5_clear 2 = .ok (.putfield 9, 3) := by decide +kernel
theorem dX5_clear_5 : decode cX5_clear 5 = .ok (.aload_n 0, 1) := by decide +kernel
theorem dX5_clear_6 : decode cX5_clear 6 = .ok (.iconst 0, 1) := by decide +kernel
theorem dX5_clear_7 : decode cX5_clear 7 = .ok (.putfield 15, 3) := by decide +kernel
theorem dX5_clear_10 : decode cX5_clear 10 = .ok (.aload_n 0, 1) := by decide +kernel
theorem dX5_clear_11 : decode cX5_clear 11 = .ok (.iconst 0, 1) := by decide +kernel
theorem dX5_clear_12 : decode cX5_clear 12 = .ok (.putfield 18, 3) := by decide +kernel
theorem dX5_clear_15 : decode cX5_clear 15 = .ok (.aload_n 0, 1) := by decide +kernel
theorem dX5_clear_16 : decode cX5_clear 16 = .ok (.iconst 0, 1) := by decide +kernel
theorem dX5_clear_17 : decode cX5_clear 17 = .ok (.putfield 21, 3) := by decide +kernel
theorem dX5_clear_20 : decode cX5_clear 20 = .ok (.aload_n 0, 1) := by decide +kernel
theorem dX5_clear_21 : decode cX5_clear 21 = .ok (.getfield 24, 3) := by decide +kernel
theorem dX5_clear_24 : decode cX5_clear 24 = .ok (.iconst 0, 1) := by decide +kernel
theorem dX5_clear_25 : decode cX5_clear 25 = .ok (.invokestatic 34, 3) := by decide +kernel
theorem dX5_clear_28 : decode cX5_clear 28 = .ok (.aload_n 0, 1) := by decide +kernel
theorem dX5_clear_29 : decode cX5_clear 29 = .ok (.getfield 28, 3) := by decide +kernel
theorem dX5_clear_32 : decode cX5_clear 32 = .ok (.iconst 0, 1) := by decide +kernel
theorem dX5_clear_33 : decode cX5_clear 33 = .ok (.invokestatic 34, 3) := by decide +kernel
theorem dX5_clear_36 : decode cX5_clear 36 = .ok (.aload_n 0, 1) := by decide +kernel
theorem dX5_clear_37 : decode cX5_clear 37 = .ok (.getfield 31, 3) := by decide +kernel
theorem dX5_clear_40 : decode cX5_clear 40 = .ok (.iconst 0, 1) := by decide +kernel
theorem dX5_clear_41 : decode cX5_clear 41 = .ok (.invokestatic 34, 3) := by decide +kernel
theorem dX5_clear_44 : decode cX5_clear 44 = .ok (.return_, 1) := by decide +kernel
theorem dX5_copyFrom_0 : decode cX5_copyFrom 0 = .ok (.aload_n 0, 1) := by decide +kernel
theorem dX5_copyFrom_1 : decode cX5_copyFrom 1 = .ok (.aload_n 1, 1) := by decide +kernel
theorem dX5_copyFrom_2 : decode cX5_copyFrom 2 = .ok (.getfield 9, 3) := by decide +kernel
theorem dX5_copyFrom_5 : decode cX5_copyFrom 5 = .ok (.putfield 9, 3) := by decide +kernel
theorem dX5_copyFrom_8 : decode cX5_copyFrom 8 = .ok (.aload_n 0, 1) := by decide +kernel
theorem dX5_copyFrom_9 : decode cX5_copyFrom 9 = .ok (.aload_n 1, 1) := by decide +kernel
theorem dX5_copyFrom_10 : decode cX5_copyFrom 10 = .ok (.getfield 15, 3) := by decide +kernel
theorem dX5_copyFrom_13 : decode cX5_copyFrom 13 = .ok (.putfield 15, 3) := by decide +kernel
theorem dX5_copyFrom_16 : decode cX5_copyFrom 16 = .ok (.aload_n 0, 1) := by decide +kernel
theorem dX5_copyFrom_17 : decode cX5_copyFrom 17 = .ok (.aload_n 1, 1) := by decide +kernel
theorem dX5_copyFrom_18 : decode cX5_copyFrom 18 = .ok (.getfield 18, 3) := by decide +kernel
theorem dX5_copyFrom_21 : decode cX5_copyFrom 21 = .ok (.putfield 18, 3) := by decide +kernel
theorem dX5_copyFrom_24 : decode cX5_copyFrom 24 = .ok (.aload_n 0, 1) := by decide +kernel
theorem dX5_copyFrom_25 : decode cX5_copyFrom 25 = .ok (.aload_n 1, 1) := by decide +kernel
theorem dX5_copyFrom_26 : decode cX5_copyFrom 26 = .ok (.getfield 21, 3) := by decide +kernel
theorem dX5_copyFrom_29 : decode cX5_copyFrom 29 = .ok (.putfield 21, 3) := by decide +kernel
theorem dX5_copyFrom_32 : decode cX5_copyFrom 32 = .ok (.aload_n 1, 1) := by decide +kernel
theorem dX5_copyFrom_33 : decode cX5_copyFrom 33 = .ok (.getfield 24, 3) := by decide +kernel
theorem dX5_copyFrom_36 : decode cX5_copyFrom 36 = .ok (.iconst 0, 1) := by decide +kernel
theorem dX5_copyFrom_37 : decode cX5_copyFrom 37 = .ok (.aload_n 0, 1) := by decide +kernel
theorem dX5_copyFrom_38 : decode cX5_copyFrom 38 = .ok (.getfield 24, 3) := by decide +kernel
theorem dX5_copyFrom_41 : decode cX5_copyFrom 41 = .ok (.iconst 0, 1) := by decide +kernel
theorem dX5_copyFrom_42 : decode cX5_copyFrom 42 = .ok (.bipush 6, 2) := by decide +kernel
theorem dX5_copyFrom_44 : decode cX5_copyFrom 44 = .ok (.invokestatic 40, 3) := by decide +kernel
theorem dX5_copyFrom_47 : decode cX5_copyFrom 47 = .ok (.aload_n 1, 1) := by decide +kernel
theorem dX5_copyFrom_48 : decode cX5_copyFrom 48 = .ok (.getfield 28, 3) := by decide +kernel
theorem dX5_copyFrom_51 : decode cX5_copyFrom 51 = .ok (.iconst 0, 1) := by decide +kernel
theorem dX5_copyFrom_52 : decode cX5_copyFrom 52 = .ok (.aload_n 0, 1) := by decide +kernel
theorem dX5_copyFrom_53 : decode cX5_copyFrom 53 = .ok (.getfield 28, 3) := by decide +kernel
theorem dX5_copyFrom_56 : decode cX5_copyFrom 56 = .ok (.iconst 0, 1) := by decide +kernel
theorem dX5_copyFrom_57 : decode cX5_copyFrom 57 = .ok (.bipush 6, 2) := by decide +kernel
theorem dX5_copyFrom_59 : decode cX5_copyFrom 59 = .ok (.invokestatic 40, 3) := by decide +kernel
theorem dX5_copyFrom_62 : decode cX5_copyFrom 62 = .ok (.aload_n 1, 1) := by decide +kernel
theorem dX5_copyFrom_63 : decode cX5_copyFrom 63 = .ok (.getfield 31, 3) := by decide +kernel
theorem dX5_copyFrom_66 : decode cX5_copyFrom 66 = .ok (.iconst 0, 1) := by decide +kernel
theorem dX5_copyFrom_67 : decode cX5_copyFrom 67 = .ok (.aload_n 0, 1) := by decide +kernel
theorem dX5_copyFrom_68 : decode cX5_copyFrom 68 = .ok (.getfield 31, 3) := by decide +kernel
theorem dX5_copyFrom_71 : decode cX5_copyFrom 71 = .ok (.iconst 0, 1) := by decide +kernel
theorem dX5_copyFrom_72 : decode cX5_copyFrom 72 = .ok (.sipush 240, 3) := by decide +kernel
theorem dX5_copyFrom_75 : decode cX5_copyFrom 75 = .ok (.invokestatic 40, 3) := by decide +kernel
theorem dX5_copyFrom_78 : decode cX5_copyFrom 78 = .ok (.return_, 1) := by decide +kernel
theorem dX5_isSailing_0 : decode cX5_isSailing 0 = .ok (.aload_n 0, 1) := by decide +kernel
theorem dX5_isSailing_1 : decode cX5_isSailing 1 = .ok (.getfield 18, 3) := by decide +kernel
theorem dX5_isSailing_4 : decode cX5_isSailing 4 = .ok (.aload_n 0, 1) := by decide +kernel
theorem dX5_isSailing_5 : decode cX5_isSailing 5 = .ok (.getfield 21, 3) := by decide +kernel
theorem dX5_isSailing_8 : decode cX5_isSailing 8 = .ok (.ior, 1) := by decide +kernel
theorem dX5_isSailing_9 : decode cX5_isSailing 9 = .ok (.iload_n 1, 1) := by decide +kernel
theorem dX5_isSailing_10 : decode cX5_isSailing 10 = .ok (.ishr, 1) := by decide +kernel
theorem dX5_isSailing_11 : decode cX5_isSailing 11 = .ok (.iconst 1, 1) := by decide +kernel
theorem dX5_isSailing_12 : decode cX5_isSailing 12 = .ok (.iand, 1) := by decide +kernel
theorem dX5_isSailing_13 : decode cX5_isSailing 13 = .ok (.ifCond .ne 7, 3) := by decide +kernel
theorem dX5_isSailing_16 : decode cX5_isSailing 16 = .ok (.iconst 1, 1) := by decide +kernel
theorem dX5_isSailing_17 : decode cX5_isSailing 17 = .ok (.goto 4, 3) := by decide +kernel
theorem dX5_isSailing_20 : decode cX5_isSailing 20 = .ok (.iconst 0, 1) := by decide +kernel
theorem dX5_isSailing_21 : decode cX5_isSailing 21 = .ok (.ireturn, 1) := by decide +kernel
theorem dX5_isLost_0 : decode cX5_isLost 0 = .ok (.aload_n 0, 1) := by decide +kernel
theorem dX5_isLost_1 : decode cX5_isLost 1 = .ok (.getfield 18, 3) := by decide +kernel
theorem dX5_isLost_4 : decode cX5_isLost 4 = .ok (.iload_n 1, 1) := by decide +kernel
theorem dX5_isLost_5 : decode cX5_isLost 5 = .ok (.ishr, 1) := by decide +kernel
theorem dX5_isLost_6 : decode cX5_isLost 6 = .ok (.iconst 1, 1) := by decide +kernel
theorem dX5_isLost_7 : decode cX5_isLost 7 = .ok (.iand, 1) := by decide +kernel
theorem dX5_isLost_8 : decode cX5_isLost 8 = .ok (.iconst 1, 1) := by decide +kernel
theorem dX5_isLost_9 : decode cX5_isLost 9 = .ok (.if_icmp .ne 7, 3) := by decide +kernel
theorem dX5_isLost_12 : decode cX5_isLost 12 = .ok (.iconst 1, 1) := by decide +kernel
theorem dX5_isLost_13 : decode cX5_isLost 13 = .ok (.goto 4, 3) := by decide +kernel
theorem dX5_isLost_16 : decode cX5_isLost 16 = .ok (.iconst 0, 1) := by decide +kernel
theorem dX5_isLost_17 : decode cX5_isLost 17 = .ok (.ireturn, 1) := by decide +kernel
theorem dX5_isHome_0 : decode cX5_isHome 0 = .ok (.aload_n 0, 1) := by decide +kernel
theorem dX5_isHome_1 : decode cX5_isHome 1 = .ok (.getfield 21, 3) := by decide +kernel
theorem dX5_isHome_4 : decode cX5_isHome 4 = .ok (.iload_n 1, 1) := by decide +kernel
theorem dX5_isHome_5 : decode cX5_isHome 5 = .ok (.ishr, 1) := by decide +kernel
theorem dX5_isHome_6 : decode cX5_isHome 6 = .ok (.iconst 1, 1) := by decide +kernel
theorem dX5_isHome_7 : decode cX5_isHome 7 = .ok (.iand, 1) := by decide +kernel
theorem dX5_isHome_8 : decode cX5_isHome 8 = .ok (.iconst 1, 1) := by decide +kernel
theorem dX5_isHome_9 : decode cX5_isHome 9 = .ok (.if_icmp .ne 7, 3) := by decide +kernel
theorem dX5_isHome_12 : decode cX5_isHome 12 = .ok (.iconst 1, 1) := by decide +kernel
theorem dX5_isHome_13 : decode cX5_isHome 13 = .ok (.goto 4, 3) := by decide +kernel
theorem dX5_isHome_16 : decode cX5_isHome 16 = .ok (.iconst 0, 1) := by decide +kernel
theorem dX5_isHome_17 : decode cX5_isHome 17 = .ok (.ireturn, 1) := by decide +kernel
theorem dX5_areTogether_0 : decode cX5_areTogether 0 = .ok (.aload_n 0, 1) := by decide +kernel
theorem dX5_areTogether_1 : decode cX5_areTogether 1 = .ok (.iload_n 1, 1) := by decide +kernel
theorem dX5_areTogether_2 : decode cX5_areTogether 2 = .ok (.invokevirtual 46, 3) := by decide +kernel
theorem dX5_areTogether_5 : decode cX5_areTogether 5 = .ok (.ifCond .eq 30, 3) := by decide +kernel
theorem dX5_areTogether_8 : decode cX5_areTogether 8 = .ok (.aload_n 0, 1) := by decide +kernel
theorem dX5_areTogether_9 : decode cX5_areTogether 9 = .ok (.iload_n 2, 1) := by decide +kernel
theorem dX5_areTogether_10 : decode cX5_areTogether 10 = .ok (.invokevirtual 46, 3) := by decide +kernel
theorem dX5_areTogether_13 : decode cX5_areTogether 13 = .ok (.ifCond .eq 22, 3) := by decide +kernel
theorem dX5_areTogether_16 : decode cX5_areTogether 16 = .ok (.aload_n 0, 1) := by decide +kernel
theorem dX5_areTogether_17 : decode cX5_areTogether 17 = .ok (.getfield 24, 3) := by decide +kernel
theorem dX5_areTogether_20 : decode cX5_areTogether 20 = .ok (.iload_n 1, 1) := by decide +kernel
theorem dX5_areTogether_21 : decode cX5_areTogether 21 = .ok (.iaload, 1) := by decide +kernel
theorem dX5_areTogether_22 : decode cX5_areTogether 22 = .ok (.aload_n 0, 1) := by decide +kernel
theorem dX5_areTogether_23 : decode cX5_areTogether 23 = .ok (.getfield 24, 3) := by decide +kernel
theorem dX5_areTogether_26 : decode cX5_areTogether 26 = .ok (.iload_n 2, 1) := by decide +kernel
theorem dX5_areTogether_27 : decode cX5_areTogether 27 = .ok (.iaload, 1) := by decide +kernel
theorem dX5_areTogether_28 : decode cX5_areTogether 28 = .ok (.if_icmp .ne 7, 3) := by decide +kernel
theorem dX5_areTogether_31 : decode cX5_areTogether 31 = .ok (.iconst 1, 1) := by decide +kernel
theorem dX5_areTogether_32 : decode cX5_areTogether 32 = .ok (.goto 4, 3) := by decide +kernel
theorem dX5_areTogether_35 : decode cX5_areTogether 35 = .ok (.iconst 0, 1) := by decide +kernel
theorem dX5_areTogether_36 : decode cX5_areTogether 36 = .ok (.ireturn, 1) := by decide +kernel
theorem dX5_eastOf_0 : decode cX5_eastOf 0 = .ok (.aload_n 0, 1) := by decide +kernel
theorem dX5_eastOf_1 : decode cX5_eastOf 1 = .ok (.iload_n 1, 1) := by decide +kernel
theorem dX5_eastOf_2 : decode cX5_eastOf 2 = .ok (.invokevirtual 50, 3) := by decide +kernel
theorem dX5_eastOf_5 : decode cX5_eastOf 5 = .ok (.ifCond .eq 8, 3) := by decide +kernel
theorem dX5_eastOf_8 : decode cX5_eastOf 8 = .ok (.bipush (-2), 2) := by decide +kernel
theorem dX5_eastOf_10 : decode cX5_eastOf 10 = .ok (.goto 12, 3) := by decide +kernel
theorem dX5_eastOf_13 : decode cX5_eastOf 13 = .ok (.aload_n 0, 1) := by decide +kernel
theorem dX5_eastOf_14 : decode cX5_eastOf 14 = .ok (.getfield 24, 3) := by decide +kernel
theorem dX5_eastOf_17 : decode cX5_eastOf 17 = .ok (.iload_n 1, 1) := by decide +kernel
theorem dX5_eastOf_18 : decode cX5_eastOf 18 = .ok (.iaload, 1) := by decide +kernel
theorem dX5_eastOf_19 : decode cX5_eastOf 19 = .ok (.bipush 8, 2) := by decide +kernel
theorem dX5_eastOf_21 : decode cX5_eastOf 21 = .ok (.irem, 1) := by decide +kernel
theorem dX5_eastOf_22 : decode cX5_eastOf 22 = .ok (.ireturn, 1) := by decide +kernel
theorem dX5_southOf_0 : decode cX5_southOf 0 = .ok (.aload_n 0, 1) := by decide +kernel
theorem dX5_southOf_1 : decode cX5_southOf 1 = .ok (.iload_n 1, 1) := by decide +kernel
theorem dX5_southOf_2 : decode cX5_southOf 2 = .ok (.invokevirtual 50, 3) := by decide +kernel
theorem dX5_southOf_5 : decode cX5_southOf 5 = .ok (.ifCond .eq 8, 3) := by decide +kernel
theorem dX5_southOf_8 : decode cX5_southOf 8 = .ok (.bipush (-2), 2) := by decide +kernel
theorem dX5_southOf_10 : decode cX5_southOf 10 = .ok (.goto 12, 3) := by decide +kernel
theorem dX5_southOf_13 : decode cX5_southOf 13 = .ok (.aload_n 0, 1) := by decide +kernel
theorem dX5_southOf_14 : decode cX5_southOf 14 = .ok (.getfield 24, 3) := by decide +kernel
theorem dX5_southOf_17 : decode cX5_southOf 17 = .ok (.iload_n 1, 1) := by decide +kernel
theorem dX5_southOf_18 : decode cX5_southOf 18 = .ok (.iaload, 1) := by decide +kernel
theorem dX5_southOf_19 : decode cX5_southOf 19 = .ok (.bipush 8, 2) := by decide +kernel
theorem dX5_southOf_21 : decode cX5_southOf 21 = .ok (.idiv, 1) := by decide +kernel
theorem dX5_southOf_22 : decode cX5_southOf 22 = .ok (.ireturn, 1) := by decide +kernel
theorem dX5_arrivalOf_0 : decode cX5_arrivalOf 0 = .ok (.aload_n 0, 1) := by decide +kernel
theorem dX5_arrivalOf_1 : decode cX5_arrivalOf 1 = .ok (.iload_n 1, 1) := by decide +kernel
theorem dX5_arrivalOf_2 : decode cX5_arrivalOf 2 = .ok (.invokevirtual 53, 3) := by decide +kernel
theorem dX5_arrivalOf_5 : decode cX5_arrivalOf 5 = .ok (.ifCond .eq 12, 3) := by decide +kernel
theorem dX5_arrivalOf_8 : decode cX5_arrivalOf 8 = .ok (.aload_n 0, 1) := by decide +kernel
theorem dX5_arrivalOf_9 : decode cX5_arrivalOf 9 = .ok (.getfield 28, 3) := by decide +kernel
theorem dX5_arrivalOf_12 : decode cX5_arrivalOf 12 = .ok (.iload_n 1, 1) := by decide +kernel
theorem dX5_arrivalOf_13 : decode cX5_arrivalOf 13 = .ok (.iaload, 1) := by decide +kernel
theorem dX5_arrivalOf_14 : decode cX5_arrivalOf 14 = .ok (.goto 5, 3) := by decide +kernel
theorem dX5_arrivalOf_17 : decode cX5_arrivalOf 17 = .ok (.bipush (-2), 2) := by decide +kernel
theorem dX5_arrivalOf_19 : decode cX5_arrivalOf 19 = .ok (.ireturn, 1) := by decide +kernel
theorem dX5_bringHome_0 : decode cX5_bringHome 0 = .ok (.aload_n 0, 1) := by decide +kernel
theorem dX5_bringHome_1 : decode cX5_bringHome 1 = .ok (.dup, 1) := by decide +kernel
theorem dX5_bringHome_2 : decode cX5_bringHome 2 = .ok (.getfield 21, 3) := by decide +kernel
theorem dX5_bringHome_5 : decode cX5_bringHome 5 = .ok (.iconst 1, 1) := by decide +kernel
theorem dX5_bringHome_6 : decode cX5_bringHome 6 = .ok (.iload_n 1, 1) := by decide +kernel
theorem dX5_bringHome_7 : decode cX5_bringHome 7 = .ok (.ishl, 1) := by decide +kernel
theorem dX5_bringHome_8 : decode cX5_bringHome 8 = .ok (.ior, 1) := by decide +kernel
theorem dX5_bringHome_9 : decode cX5_bringHome 9 = .ok (.putfield 21, 3) := by decide +kernel
theorem dX5_bringHome_12 : decode cX5_bringHome 12 = .ok (.aload_n 0, 1) := by decide +kernel
theorem dX5_bringHome_13 : decode cX5_bringHome 13 = .ok (.getfield 28, 3) := by decide +kernel
theorem dX5_bringHome_16 : decode cX5_bringHome 16 = .ok (.iload_n 1, 1) := by decide +kernel
theorem dX5_bringHome_17 : decode cX5_bringHome 17 = .ok (.aload_n 0, 1) := by decide +kernel
theorem dX5_bringHome_18 : decode cX5_bringHome 18 = .ok (.getfield 21, 3) := by decide +kernel
theorem dX5_bringHome_21 : decode cX5_bringHome 21 = .ok (.invokestatic 56, 3) := by decide +kernel
theorem dX5_bringHome_24 : decode cX5_bringHome 24 = .ok (.iastore, 1) := by decide +kernel
theorem dX5_bringHome_25 : decode cX5_bringHome 25 = .ok (.return_, 1) := by decide +kernel
theorem dX5_rankOf_0 : decode cX5_rankOf 0 = .ok (.iconst 0, 1) := by decide +kernel
theorem dX5_rankOf_1 : decode cX5_rankOf 1 = .ok (.istore_n 3, 1) := by decide +kernel
theorem dX5_rankOf_2 : decode cX5_rankOf 2 = .ok (.iconst 0, 1) := by decide +kernel
theorem dX5_rankOf_3 : decode cX5_rankOf 3 = .ok (.istore 4, 2) := by decide +kernel
theorem dX5_rankOf_5 : decode cX5_rankOf 5 = .ok (.iload 4, 2) := by decide +kernel
theorem dX5_rankOf_7 : decode cX5_rankOf 7 = .ok (.iload_n 2, 1) := by decide +kernel
theorem dX5_rankOf_8 : decode cX5_rankOf 8 = .ok (.if_icmp .ge 26, 3) := by decide +kernel
theorem dX5_rankOf_11 : decode cX5_rankOf 11 = .ok (.aload_n 0, 1) := by decide +kernel
theorem dX5_rankOf_12 : decode cX5_rankOf 12 = .ok (.iload 4, 2) := by decide +kernel
theorem dX5_rankOf_14 : decode cX5_rankOf 14 = .ok (.invokevirtual 62, 3) := by decide +kernel
theorem dX5_rankOf_17 : decode cX5_rankOf 17 = .ok (.aload_n 0, 1) := by decide +kernel
theorem dX5_rankOf_18 : decode cX5_rankOf 18 = .ok (.iload_n 1, 1) := by decide +kernel
theorem dX5_rankOf_19 : decode cX5_rankOf 19 = .ok (.invokevirtual 62, 3) := by decide +kernel
theorem dX5_rankOf_22 : decode cX5_rankOf 22 = .ok (.if_icmp .ge 6, 3) := by decide +kernel
theorem dX5_rankOf_25 : decode cX5_rankOf 25 = .ok (.iinc 3 1, 3) := by decide +kernel
theorem dX5_rankOf_28 : decode cX5_rankOf 28 = .ok (.iinc 4 1, 3) := by decide +kernel
theorem dX5_rankOf_31 : decode cX5_rankOf 31 = .ok (.goto (-26), 3) := by decide +kernel
theorem dX5_rankOf_34 : decode cX5_rankOf 34 = .ok (.iload_n 3, 1) := by decide +kernel
theorem dX5_rankOf_35 : decode cX5_rankOf 35 = .ok (.ireturn, 1) := by decide +kernel
theorem dX5_boatRanked_0 : decode cX5_boatRanked 0 = .ok (.iconst 0, 1) := by decide +kernel
theorem dX5_boatRanked_1 : decode cX5_boatRanked 1 = .ok (.istore_n 3, 1) := by decide +kernel
theorem dX5_boatRanked_2 : decode cX5_boatRanked 2 = .ok (.iload_n 3, 1) := by decide +kernel
theorem dX5_boatRanked_3 : decode cX5_boatRanked 3 = .ok (.iload_n 2, 1) := by decide +kernel
theorem dX5_boatRanked_4 : decode cX5_boatRanked 4 = .ok (.if_icmp .ge 21, 3) := by decide +kernel
theorem dX5_boatRanked_7 : decode cX5_boatRanked 7 = .ok (.aload_n 0, 1) := by decide +kernel
theorem dX5_boatRanked_8 : decode cX5_boatRanked 8 = .ok (.iload_n 3, 1) := by decide +kernel
theorem dX5_boatRanked_9 : decode cX5_boatRanked 9 = .ok (.iload_n 2, 1) := by decide +kernel
theorem dX5_boatRanked_10 : decode cX5_boatRanked 10 = .ok (.invokevirtual 65, 3) := by decide +kernel
theorem dX5_boatRanked_13 : decode cX5_boatRanked 13 = .ok (.iload_n 1, 1) := by decide +kernel
theorem dX5_boatRanked_14 : decode cX5_boatRanked 14 = .ok (.if_icmp .ne 5, 3) := by decide +kernel
theorem dX5_boatRanked_17 : decode cX5_boatRanked 17 = .ok (.iload_n 3, 1) := by decide +kernel
theorem dX5_boatRanked_18 : decode cX5_boatRanked 18 = .ok (.ireturn, 1) := by decide +kernel
theorem dX5_boatRanked_19 : decode cX5_boatRanked 19 = .ok (.iinc 3 1, 3) := by decide +kernel
theorem dX5_boatRanked_22 : decode cX5_boatRanked 22 = .ok (.goto (-20), 3) := by decide +kernel
theorem dX5_boatRanked_25 : decode cX5_boatRanked 25 = .ok (.iconst (-1), 1) := by decide +kernel
theorem dX5_boatRanked_26 : decode cX5_boatRanked 26 = .ok (.ireturn, 1) := by decide +kernel
theorem dX5_behindness_0 : decode cX5_behindness 0 = .ok (.aload_n 0, 1) := by decide +kernel
theorem dX5_behindness_1 : decode cX5_behindness 1 = .ok (.iload_n 1, 1) := by decide +kernel
theorem dX5_behindness_2 : decode cX5_behindness 2 = .ok (.invokevirtual 53, 3) := by decide +kernel
theorem dX5_behindness_5 : decode cX5_behindness 5 = .ok (.ifCond .eq 10, 3) := by decide +kernel
theorem dX5_behindness_8 : decode cX5_behindness 8 = .ok (.aload_n 0, 1) := by decide +kernel
theorem dX5_behindness_9 : decode cX5_behindness 9 = .ok (.getfield 28, 3) := by decide +kernel
theorem dX5_behindness_12 : decode cX5_behindness 12 = .ok (.iload_n 1, 1) := by decide +kernel
theorem dX5_behindness_13 : decode cX5_behindness 13 = .ok (.iaload, 1) := by decide +kernel
theorem dX5_behindness_14 : decode cX5_behindness 14 = .ok (.ireturn, 1) := by decide +kernel
theorem dX5_behindness_15 : decode cX5_behindness 15 = .ok (.aload_n 0, 1) := by decide +kernel
theorem dX5_behindness_16 : decode cX5_behindness 16 = .ok (.iload_n 1, 1) := by decide +kernel
theorem dX5_behindness_17 : decode cX5_behindness 17 = .ok (.invokevirtual 50, 3) := by decide +kernel
theorem dX5_behindness_20 : decode cX5_behindness 20 = .ok (.ifCond .eq 9, 3) := by decide +kernel
theorem dX5_behindness_23 : decode cX5_behindness 23 = .ok (.sipush 1000, 3) := by decide +kernel
theorem dX5_behindness_26 : decode cX5_behindness 26 = .ok (.iload_n 1, 1) := by decide +kernel
theorem dX5_behindness_27 : decode cX5_behindness 27 = .ok (.iadd, 1) := by decide +kernel
theorem dX5_behindness_28 : decode cX5_behindness 28 = .ok (.ireturn, 1) := by decide +kernel
theorem dX5_behindness_29 : decode cX5_behindness 29 = .ok (.bipush 10, 2) := by decide +kernel
theorem dX5_behindness_31 : decode cX5_behindness 31 = .ok (.bipush 8, 2) := by decide +kernel
theorem dX5_behindness_33 : decode cX5_behindness 33 = .ok (.aload_n 0, 1) := by decide +kernel
theorem dX5_behindness_34 : decode cX5_behindness 34 = .ok (.iload_n 1, 1) := by decide +kernel
theorem dX5_behindness_35 : decode cX5_behindness 35 = .ok (.invokevirtual 69, 3) := by decide +kernel
theorem dX5_behindness_38 : decode cX5_behindness 38 = .ok (.isub, 1) := by decide +kernel
theorem dX5_behindness_39 : decode cX5_behindness 39 = .ok (.imul, 1) := by decide +kernel
theorem dX5_behindness_40 : decode cX5_behindness 40 = .ok (.iload_n 1, 1) := by decide +kernel
theorem dX5_behindness_41 : decode cX5_behindness 41 = .ok (.iadd, 1) := by decide +kernel
theorem dX5_behindness_42 : decode cX5_behindness 42 = .ok (.ireturn, 1) := by decide +kernel
theorem dX5_lay_0 : decode cX5_lay 0 = .ok (.aload_n 0, 1) := by decide +kernel
theorem dX5_lay_1 : decode cX5_lay 1 = .ok (.getfield 31, 3) := by decide +kernel
theorem dX5_lay_4 : decode cX5_lay 4 = .ok (.iload_n 1, 1) := by decide +kernel
theorem dX5_lay_5 : decode cX5_lay 5 = .ok (.bipush 16, 2) := by decide +kernel
theorem dX5_lay_7 : decode cX5_lay 7 = .ok (.aload_n 0, 1) := by decide +kernel
theorem dX5_lay_8 : decode cX5_lay 8 = .ok (.getfield 9, 3) := by decide +kernel
theorem dX5_lay_11 : decode cX5_lay 11 = .ok (.iconst 1, 1) := by decide +kernel
theorem dX5_lay_12 : decode cX5_lay 12 = .ok (.iadd, 1) := by decide +kernel
theorem dX5_lay_13 : decode cX5_lay 13 = .ok (.imul, 1) := by decide +kernel
theorem dX5_lay_14 : decode cX5_lay 14 = .ok (.iload_n 2, 1) := by decide +kernel
theorem dX5_lay_15 : decode cX5_lay 15 = .ok (.iadd, 1) := by decide +kernel
theorem dX5_lay_16 : decode cX5_lay 16 = .ok (.iastore, 1) := by decide +kernel
theorem dX5_lay_17 : decode cX5_lay 17 = .ok (.return_, 1) := by decide +kernel
theorem dX5_wasLaid_0 : decode cX5_wasLaid 0 = .ok (.aload_n 0, 1) := by decide +kernel
theorem dX5_wasLaid_1 : decode cX5_wasLaid 1 = .ok (.getfield 31, 3) := by decide +kernel
theorem dX5_wasLaid_4 : decode cX5_wasLaid 4 = .ok (.iload_n 1, 1) := by decide +kernel
theorem dX5_wasLaid_5 : decode cX5_wasLaid 5 = .ok (.iaload, 1) := by decide +kernel
theorem dX5_wasLaid_6 : decode cX5_wasLaid 6 = .ok (.ifCond .eq 7, 3) := by decide +kernel
theorem dX5_wasLaid_9 : decode cX5_wasLaid 9 = .ok (.iconst 1, 1) := by decide +kernel
theorem dX5_wasLaid_10 : decode cX5_wasLaid 10 = .ok (.goto 4, 3) := by decide +kernel
theorem dX5_wasLaid_13 : decode cX5_wasLaid 13 = .ok (.iconst 0, 1) := by decide +kernel
theorem dX5_wasLaid_14 : decode cX5_wasLaid 14 = .ok (.ireturn, 1) := by decide +kernel
theorem dX5_laidHour_0 : decode cX5_laidHour 0 = .ok (.aload_n 0, 1) := by decide +kernel
theorem dX5_laidHour_1 : decode cX5_laidHour 1 = .ok (.getfield 31, 3) := by decide +kernel
theorem dX5_laidHour_4 : decode cX5_laidHour 4 = .ok (.iload_n 1, 1) := by decide +kernel
theorem dX5_laidHour_5 : decode cX5_laidHour 5 = .ok (.iaload, 1) := by decide +kernel
theorem dX5_laidHour_6 : decode cX5_laidHour 6 = .ok (.bipush 16, 2) := by decide +kernel
theorem dX5_laidHour_8 : decode cX5_laidHour 8 = .ok (.idiv, 1) := by decide +kernel
theorem dX5_laidHour_9 : decode cX5_laidHour 9 = .ok (.iconst 1, 1) := by decide +kernel
theorem dX5_laidHour_10 : decode cX5_laidHour 10 = .ok (.isub, 1) := by decide +kernel
theorem dX5_laidHour_11 : decode cX5_laidHour 11 = .ok (.ireturn, 1) := by decide +kernel
theorem dX5_liesTill_0 : decode cX5_liesTill 0 = .ok (.aload_n 0, 1) := by decide +kernel
theorem dX5_liesTill_1 : decode cX5_liesTill 1 = .ok (.getfield 31, 3) := by decide +kernel
theorem dX5_liesTill_4 : decode cX5_liesTill 4 = .ok (.iload_n 1, 1) := by decide +kernel
theorem dX5_liesTill_5 : decode cX5_liesTill 5 = .ok (.iaload, 1) := by decide +kernel
theorem dX5_liesTill_6 : decode cX5_liesTill 6 = .ok (.bipush 16, 2) := by decide +kernel
theorem dX5_liesTill_8 : decode cX5_liesTill 8 = .ok (.idiv, 1) := by decide +kernel
theorem dX5_liesTill_9 : decode cX5_liesTill 9 = .ok (.iconst 1, 1) := by decide +kernel
theorem dX5_liesTill_10 : decode cX5_liesTill 10 = .ok (.isub, 1) := by decide +kernel
theorem dX5_liesTill_11 : decode cX5_liesTill 11 = .ok (.aload_n 0, 1) := by decide +kernel
theorem dX5_liesTill_12 : decode cX5_liesTill 12 = .ok (.getfield 31, 3) := by decide +kernel
theorem dX5_liesTill_15 : decode cX5_liesTill 15 = .ok (.iload_n 1, 1) := by decide +kernel
theorem dX5_liesTill_16 : decode cX5_liesTill 16 = .ok (.iaload, 1) := by decide +kernel
theorem dX5_liesTill_17 : decode cX5_liesTill 17 = .ok (.bipush 16, 2) := by decide +kernel
theorem dX5_liesTill_19 : decode cX5_liesTill 19 = .ok (.irem, 1) := by decide +kernel
theorem dX5_liesTill_20 : decode cX5_liesTill 20 = .ok (.iadd, 1) := by decide +kernel
theorem dX5_liesTill_21 : decode cX5_liesTill 21 = .ok (.ireturn, 1) := by decide +kernel
theorem dX5_lies_0 : decode cX5_lies 0 = .ok (.aload_n 0, 1) := by decide +kernel
theorem dX5_lies_1 : decode cX5_lies 1 = .ok (.iload_n 1, 1) := by decide +kernel
theorem dX5_lies_2 : decode cX5_lies 2 = .ok (.invokevirtual 72, 3) := by decide +kernel
theorem dX5_lies_5 : decode cX5_lies 5 = .ok (.ifCond .eq 19, 3) := by decide +kernel
theorem dX5_lies_8 : decode cX5_lies 8 = .ok (.aload_n 0, 1) := by decide +kernel
theorem dX5_lies_9 : decode cX5_lies 9 = .ok (.getfield 9, 3) := by decide +kernel
theorem dX5_lies_12 : decode cX5_lies 12 = .ok (.aload_n 0, 1) := by decide +kernel
theorem dX5_lies_13 : decode cX5_lies 13 = .ok (.iload_n 1, 1) := by decide +kernel
theorem dX5_lies_14 : decode cX5_lies 14 = .ok (.invokevirtual 75, 3) := by decide +kernel
theorem dX5_lies_17 : decode cX5_lies 17 = .ok (.if_icmp .gt 7, 3) := by decide +kernel
theorem dX5_lies_20 : decode cX5_lies 20 = .ok (.iconst 1, 1) := by decide +kernel
theorem dX5_lies_21 : decode cX5_lies 21 = .ok (.goto 4, 3) := by decide +kernel
theorem dX5_lies_24 : decode cX5_lies 24 = .ok (.iconst 0, 1) := by decide +kernel
theorem dX5_lies_25 : decode cX5_lies 25 = .ok (.ireturn, 1) := by decide +kernel
theorem dX5_dishesIn_0 : decode cX5_dishesIn 0 = .ok (.iconst 0, 1) := by decide +kernel
theorem dX5_dishesIn_1 : decode cX5_dishesIn 1 = .ok (.istore_n 3, 1) := by decide +kernel
theorem dX5_dishesIn_2 : decode cX5_dishesIn 2 = .ok (.iconst 0, 1) := by decide +kernel
theorem dX5_dishesIn_3 : decode cX5_dishesIn 3 = .ok (.istore 4, 2) := by decide +kernel
theorem dX5_dishesIn_5 : decode cX5_dishesIn 5 = .ok (.iload 4, 2) := by decide +kernel
theorem dX5_dishesIn_7 : decode cX5_dishesIn 7 = .ok (.iload_n 2, 1) := by decide +kernel
theorem dX5_dishesIn_8 : decode cX5_dishesIn 8 = .ok (.if_icmp .ge 30, 3) := by decide +kernel
theorem dX5_dishesIn_11 : decode cX5_dishesIn 11 = .ok (.aload_n 0, 1) := by decide +kernel
theorem dX5_dishesIn_12 : decode cX5_dishesIn 12 = .ok (.bipush 40, 2) := by decide +kernel
theorem dX5_dishesIn_14 : decode cX5_dishesIn 14 = .ok (.iload 4, 2) := by decide +kernel
theorem dX5_dishesIn_16 : decode cX5_dishesIn 16 = .ok (.imul, 1) := by decide +kernel
theorem dX5_dishesIn_17 : decode cX5_dishesIn 17 = .ok (.iload_n 1, 1) := by decide +kernel
theorem dX5_dishesIn_18 : decode cX5_dishesIn 18 = .ok (.iadd, 1) := by decide +kernel
theorem dX5_dishesIn_19 : decode cX5_dishesIn 19 = .ok (.invokevirtual 78, 3) := by decide +kernel
theorem dX5_dishesIn_22 : decode cX5_dishesIn 22 = .ok (.ifCond .eq 10, 3) := by decide +kernel
theorem dX5_dishesIn_25 : decode cX5_dishesIn 25 = .ok (.iload_n 3, 1) := by decide +kernel
theorem dX5_dishesIn_26 : decode cX5_dishesIn 26 = .ok (.iconst 1, 1) := by decide +kernel
theorem dX5_dishesIn_27 : decode cX5_dishesIn 27 = .ok (.iload 4, 2) := by decide +kernel
theorem dX5_dishesIn_29 : decode cX5_dishesIn 29 = .ok (.ishl, 1) := by decide +kernel
theorem dX5_dishesIn_30 : decode cX5_dishesIn 30 = .ok (.ior, 1) := by decide +kernel
theorem dX5_dishesIn_31 : decode cX5_dishesIn 31 = .ok (.istore_n 3, 1) := by decide +kernel
theorem dX5_dishesIn_32 : decode cX5_dishesIn 32 = .ok (.iinc 4 1, 3) := by decide +kernel
theorem dX5_dishesIn_35 : decode cX5_dishesIn 35 = .ok (.goto (-30), 3) := by decide +kernel
theorem dX5_dishesIn_38 : decode cX5_dishesIn 38 = .ok (.iload_n 3, 1) := by decide +kernel
theorem dX5_dishesIn_39 : decode cX5_dishesIn 39 = .ok (.ireturn, 1) := by decide +kernel
theorem dJ6_bitCount_0f7a4_0 : decode cJ6_bitCount_0f7a4 0 = .ok (.iload_n 0, 1) := by decide +kernel
theorem dJ6_bitCount_0f7a4_1 : decode cJ6_bitCount_0f7a4 1 = .ok (.iload_n 0, 1) := by decide +kernel
theorem dJ6_bitCount_0f7a4_2 : decode cJ6_bitCount_0f7a4 2 = .ok (.iconst 1, 1) := by decide +kernel
theorem dJ6_bitCount_0f7a4_3 : decode cJ6_bitCount_0f7a4 3 = .ok (.iushr, 1) := by decide +kernel
theorem dJ6_bitCount_0f7a4_4 : decode cJ6_bitCount_0f7a4 4 = .ok (.ldc_w 265, 3) := by decide +kernel
theorem dJ6_bitCount_0f7a4_7 : decode cJ6_bitCount_0f7a4 7 = .ok (.iand, 1) := by decide +kernel
theorem dJ6_bitCount_0f7a4_8 : decode cJ6_bitCount_0f7a4 8 = .ok (.isub, 1) := by decide +kernel
theorem dJ6_bitCount_0f7a4_9 : decode cJ6_bitCount_0f7a4 9 = .ok (.istore_n 0, 1) := by decide +kernel
theorem dJ6_bitCount_0f7a4_10 : decode cJ6_bitCount_0f7a4 10 = .ok (.iload_n 0, 1) := by decide +kernel
theorem dJ6_bitCount_0f7a4_11 : decode cJ6_bitCount_0f7a4 11 = .ok (.ldc_w 266, 3) := by decide +kernel
theorem dJ6_bitCount_0f7a4_14 : decode cJ6_bitCount_0f7a4 14 = .ok (.iand, 1) := by decide +kernel
theorem dJ6_bitCount_0f7a4_15 : decode cJ6_bitCount_0f7a4 15 = .ok (.iload_n 0, 1) := by decide +kernel
theorem dJ6_bitCount_0f7a4_16 : decode cJ6_bitCount_0f7a4 16 = .ok (.iconst 2, 1) := by decide +kernel
theorem dJ6_bitCount_0f7a4_17 : decode cJ6_bitCount_0f7a4 17 = .ok (.iushr, 1) := by decide +kernel
theorem dJ6_bitCount_0f7a4_18 : decode cJ6_bitCount_0f7a4 18 = .ok (.ldc_w 266, 3) := by decide +kernel
theorem dJ6_bitCount_0f7a4_21 : decode cJ6_bitCount_0f7a4 21 = .ok (.iand, 1) := by decide +kernel
theorem dJ6_bitCount_0f7a4_22 : decode cJ6_bitCount_0f7a4 22 = .ok (.iadd, 1) := by decide +kernel
theorem dJ6_bitCount_0f7a4_23 : decode cJ6_bitCount_0f7a4 23 = .ok (.istore_n 0, 1) := by decide +kernel
theorem dJ6_bitCount_0f7a4_24 : decode cJ6_bitCount_0f7a4 24 = .ok (.iload_n 0, 1) := by decide +kernel
theorem dJ6_bitCount_0f7a4_25 : decode cJ6_bitCount_0f7a4 25 = .ok (.iload_n 0, 1) := by decide +kernel
theorem dJ6_bitCount_0f7a4_26 : decode cJ6_bitCount_0f7a4 26 = .ok (.iconst 4, 1) := by decide +kernel
theorem dJ6_bitCount_0f7a4_27 : decode cJ6_bitCount_0f7a4 27 = .ok (.iushr, 1) := by decide +kernel
theorem dJ6_bitCount_0f7a4_28 : decode cJ6_bitCount_0f7a4 28 = .ok (.iadd, 1) := by decide +kernel
theorem dJ6_bitCount_0f7a4_29 : decode cJ6_bitCount_0f7a4 29 = .ok (.ldc_w 267, 3) := by decide +kernel
theorem dJ6_bitCount_0f7a4_32 : decode cJ6_bitCount_0f7a4 32 = .ok (.iand, 1) := by decide +kernel
theorem dJ6_bitCount_0f7a4_33 : decode cJ6_bitCount_0f7a4 33 = .ok (.istore_n 0, 1) := by decide +kernel
theorem dJ6_bitCount_0f7a4_34 : decode cJ6_bitCount_0f7a4 34 = .ok (.iload_n 0, 1) := by decide +kernel
theorem dJ6_bitCount_0f7a4_35 : decode cJ6_bitCount_0f7a4 35 = .ok (.iload_n 0, 1) := by decide +kernel
theorem dJ6_bitCount_0f7a4_36 : decode cJ6_bitCount_0f7a4 36 = .ok (.bipush 8, 2) := by decide +kernel
theorem dJ6_bitCount_0f7a4_38 : decode cJ6_bitCount_0f7a4 38 = .ok (.iushr, 1) := by decide +kernel
theorem dJ6_bitCount_0f7a4_39 : decode cJ6_bitCount_0f7a4 39 = .ok (.iadd, 1) := by decide +kernel
theorem dJ6_bitCount_0f7a4_40 : decode cJ6_bitCount_0f7a4 40 = .ok (.istore_n 0, 1) := by decide +kernel
theorem dJ6_bitCount_0f7a4_41 : decode cJ6_bitCount_0f7a4 41 = .ok (.iload_n 0, 1) := by decide +kernel
theorem dJ6_bitCount_0f7a4_42 : decode cJ6_bitCount_0f7a4 42 = .ok (.iload_n 0, 1) := by decide +kernel
theorem dJ6_bitCount_0f7a4_43 : decode cJ6_bitCount_0f7a4 43 = .ok (.bipush 16, 2) := by decide +kernel
theorem dJ6_bitCount_0f7a4_45 : decode cJ6_bitCount_0f7a4 45 = .ok (.iushr, 1) := by decide +kernel
theorem dJ6_bitCount_0f7a4_46 : decode cJ6_bitCount_0f7a4 46 = .ok (.iadd, 1) := by decide +kernel
theorem dJ6_bitCount_0f7a4_47 : decode cJ6_bitCount_0f7a4 47 = .ok (.istore_n 0, 1) := by decide +kernel
theorem dJ6_bitCount_0f7a4_48 : decode cJ6_bitCount_0f7a4 48 = .ok (.iload_n 0, 1) := by decide +kernel
theorem dJ6_bitCount_0f7a4_49 : decode cJ6_bitCount_0f7a4 49 = .ok (.bipush 63, 2) := by decide +kernel
theorem dJ6_bitCount_0f7a4_51 : decode cJ6_bitCount_0f7a4 51 = .ok (.iand, 1) := by decide +kernel
theorem dJ6_bitCount_0f7a4_52 : decode cJ6_bitCount_0f7a4 52 = .ok (.ireturn, 1) := by decide +kernel
theorem dJ13_bitCount_95d88_0 : decode cJ13_bitCount_95d88 0 = .ok (.lload_n 0, 1) := by decide +kernel
theorem dJ13_bitCount_95d88_1 : decode cJ13_bitCount_95d88 1 = .ok (.lload_n 0, 1) := by decide +kernel
theorem dJ13_bitCount_95d88_2 : decode cJ13_bitCount_95d88 2 = .ok (.iconst 1, 1) := by decide +kernel
theorem dJ13_bitCount_95d88_3 : decode cJ13_bitCount_95d88 3 = .ok (.lushr, 1) := by decide +kernel
theorem dJ13_bitCount_95d88_4 : decode cJ13_bitCount_95d88 4 = .ok (.ldc2_w 314, 3) := by decide +kernel
theorem dJ13_bitCount_95d88_7 : decode cJ13_bitCount_95d88 7 = .ok (.land, 1) := by decide +kernel
theorem dJ13_bitCount_95d88_8 : decode cJ13_bitCount_95d88 8 = .ok (.lsub, 1) := by decide +kernel
theorem dJ13_bitCount_95d88_9 : decode cJ13_bitCount_95d88 9 = .ok (.lstore_n 0, 1) := by decide +kernel
theorem dJ13_bitCount_95d88_10 : decode cJ13_bitCount_95d88 10 = .ok (.lload_n 0, 1) := by decide +kernel
theorem dJ13_bitCount_95d88_11 : decode cJ13_bitCount_95d88 11 = .ok (.ldc2_w 316, 3) := by decide +kernel
theorem dJ13_bitCount_95d88_14 : decode cJ13_bitCount_95d88 14 = .ok (.land, 1) := by decide +kernel
theorem dJ13_bitCount_95d88_15 : decode cJ13_bitCount_95d88 15 = .ok (.lload_n 0, 1) := by decide +kernel
theorem dJ13_bitCount_95d88_16 : decode cJ13_bitCount_95d88 16 = .ok (.iconst 2, 1) := by decide +kernel
theorem dJ13_bitCount_95d88_17 : decode cJ13_bitCount_95d88 17 = .ok (.lushr, 1) := by decide +kernel
theorem dJ13_bitCount_95d88_18 : decode cJ13_bitCount_95d88 18 = .ok (.ldc2_w 316, 3) := by decide +kernel
theorem dJ13_bitCount_95d88_21 : decode cJ13_bitCount_95d88 21 = .ok (.land, 1) := by decide +kernel
theorem dJ13_bitCount_95d88_22 : decode cJ13_bitCount_95d88 22 = .ok (.ladd, 1) := by decide +kernel
theorem dJ13_bitCount_95d88_23 : decode cJ13_bitCount_95d88 23 = .ok (.lstore_n 0, 1) := by decide +kernel
theorem dJ13_bitCount_95d88_24 : decode cJ13_bitCount_95d88 24 = .ok (.lload_n 0, 1) := by decide +kernel
theorem dJ13_bitCount_95d88_25 : decode cJ13_bitCount_95d88 25 = .ok (.lload_n 0, 1) := by decide +kernel
theorem dJ13_bitCount_95d88_26 : decode cJ13_bitCount_95d88 26 = .ok (.iconst 4, 1) := by decide +kernel
theorem dJ13_bitCount_95d88_27 : decode cJ13_bitCount_95d88 27 = .ok (.lushr, 1) := by decide +kernel
theorem dJ13_bitCount_95d88_28 : decode cJ13_bitCount_95d88 28 = .ok (.ladd, 1) := by decide +kernel
theorem dJ13_bitCount_95d88_29 : decode cJ13_bitCount_95d88 29 = .ok (.ldc2_w 318, 3) := by decide +kernel
theorem dJ13_bitCount_95d88_32 : decode cJ13_bitCount_95d88 32 = .ok (.land, 1) := by decide +kernel
theorem dJ13_bitCount_95d88_33 : decode cJ13_bitCount_95d88 33 = .ok (.lstore_n 0, 1) := by decide +kernel
theorem dJ13_bitCount_95d88_34 : decode cJ13_bitCount_95d88 34 = .ok (.lload_n 0, 1) := by decide +kernel
theorem dJ13_bitCount_95d88_35 : decode cJ13_bitCount_95d88 35 = .ok (.lload_n 0, 1) := by decide +kernel
theorem dJ13_bitCount_95d88_36 : decode cJ13_bitCount_95d88 36 = .ok (.bipush 8, 2) := by decide +kernel
theorem dJ13_bitCount_95d88_38 : decode cJ13_bitCount_95d88 38 = .ok (.lushr, 1) := by decide +kernel
theorem dJ13_bitCount_95d88_39 : decode cJ13_bitCount_95d88 39 = .ok (.ladd, 1) := by decide +kernel
theorem dJ13_bitCount_95d88_40 : decode cJ13_bitCount_95d88 40 = .ok (.lstore_n 0, 1) := by decide +kernel
theorem dJ13_bitCount_95d88_41 : decode cJ13_bitCount_95d88 41 = .ok (.lload_n 0, 1) := by decide +kernel
theorem dJ13_bitCount_95d88_42 : decode cJ13_bitCount_95d88 42 = .ok (.lload_n 0, 1) := by decide +kernel
theorem dJ13_bitCount_95d88_43 : decode cJ13_bitCount_95d88 43 = .ok (.bipush 16, 2) := by decide +kernel
theorem dJ13_bitCount_95d88_45 : decode cJ13_bitCount_95d88 45 = .ok (.lushr, 1) := by decide +kernel
theorem dJ13_bitCount_95d88_46 : decode cJ13_bitCount_95d88 46 = .ok (.ladd, 1) := by decide +kernel
theorem dJ13_bitCount_95d88_47 : decode cJ13_bitCount_95d88 47 = .ok (.lstore_n 0, 1) := by decide +kernel
theorem dJ13_bitCount_95d88_48 : decode cJ13_bitCount_95d88 48 = .ok (.lload_n 0, 1) := by decide +kernel
theorem dJ13_bitCount_95d88_49 : decode cJ13_bitCount_95d88 49 = .ok (.lload_n 0, 1) := by decide +kernel
theorem dJ13_bitCount_95d88_50 : decode cJ13_bitCount_95d88 50 = .ok (.bipush 32, 2) := by decide +kernel
theorem dJ13_bitCount_95d88_52 : decode cJ13_bitCount_95d88 52 = .ok (.lushr, 1) := by decide +kernel
theorem dJ13_bitCount_95d88_53 : decode cJ13_bitCount_95d88 53 = .ok (.ladd, 1) := by decide +kernel
theorem dJ13_bitCount_95d88_54 : decode cJ13_bitCount_95d88 54 = .ok (.lstore_n 0, 1) := by decide +kernel
theorem dJ13_bitCount_95d88_55 : decode cJ13_bitCount_95d88 55 = .ok (.lload_n 0, 1) := by decide +kernel
theorem dJ13_bitCount_95d88_56 : decode cJ13_bitCount_95d88 56 = .ok (.l2i, 1) := by decide +kernel
theorem dJ13_bitCount_95d88_57 : decode cJ13_bitCount_95d88 57 = .ok (.bipush 127, 2) := by decide +kernel
theorem dJ13_bitCount_95d88_59 : decode cJ13_bitCount_95d88 59 = .ok (.iand, 1) := by decide +kernel
theorem dJ13_bitCount_95d88_60 : decode cJ13_bitCount_95d88 60 = .ok (.ireturn, 1) := by decide +kernel
theorem dJ7_fill_53178_0 : decode cJ7_fill_53178 0 = .ok (.iconst 0, 1) := by decide +kernel
theorem dJ7_fill_53178_1 : decode cJ7_fill_53178 1 = .ok (.istore_n 2, 1) := by decide +kernel
theorem dJ7_fill_53178_2 : decode cJ7_fill_53178 2 = .ok (.aload_n 0, 1) := by decide +kernel
theorem dJ7_fill_53178_3 : decode cJ7_fill_53178 3 = .ok (.arraylength, 1) := by decide +kernel
theorem dJ7_fill_53178_4 : decode cJ7_fill_53178 4 = .ok (.istore_n 3, 1) := by decide +kernel
theorem dJ7_fill_53178_5 : decode cJ7_fill_53178 5 = .ok (.iload_n 2, 1) := by decide +kernel
theorem dJ7_fill_53178_6 : decode cJ7_fill_53178 6 = .ok (.iload_n 3, 1) := by decide +kernel
theorem dJ7_fill_53178_7 : decode cJ7_fill_53178 7 = .ok (.if_icmp .ge 13, 3) := by decide +kernel
theorem dJ7_fill_53178_10 : decode cJ7_fill_53178 10 = .ok (.aload_n 0, 1) := by decide +kernel
theorem dJ7_fill_53178_11 : decode cJ7_fill_53178 11 = .ok (.iload_n 2, 1) := by decide +kernel
theorem dJ7_fill_53178_12 : decode cJ7_fill_53178 12 = .ok (.iload_n 1, 1) := by decide +kernel
theorem dJ7_fill_53178_13 : decode cJ7_fill_53178 13 = .ok (.iastore, 1) := by decide +kernel
theorem dJ7_fill_53178_14 : decode cJ7_fill_53178 14 = .ok (.iinc 2 1, 3) := by decide +kernel
theorem dJ7_fill_53178_17 : decode cJ7_fill_53178 17 = .ok (.goto (-12), 3) := by decide +kernel
theorem dJ7_fill_53178_20 : decode cJ7_fill_53178 20 = .ok (.return_, 1) := by decide +kernel
