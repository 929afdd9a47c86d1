theorem dX7_feed_26 : decode cX7_feed 26 = .ok (.aload_n 0, 1) := by decide +kernel
theorem dX7_feed_27 : decode cX7_feed 27 = .ok (.getfield 12, 3) := by decide +kernel
theorem dX7_feed_30 : decode cX7_feed 30 = .ok (.iload_n 2, 1) := by decide +kernel
theorem dX7_feed_31 : decode cX7_feed 31 = .ok (.invokevirtual 69, 3) := by decide +kernel
theorem dX7_feed_34 : decode cX7_feed 34 = .ok (.aload_n 0, 1) := by decide +kernel
theorem dX7_feed_35 : decode cX7_feed 35 = .ok (.getfield 12, 3) := by decide +kernel
theorem dX7_feed_38 : decode cX7_feed 38 = .ok (.iload_n 3, 1) := by decide +kernel
theorem dX7_feed_39 : decode cX7_feed 39 = .ok (.invokevirtual 69, 3) := by decide +kernel
theorem dX7_feed_42 : decode cX7_feed 42 = .ok (.aload_n 0, 1) := by decide +kernel
theorem dX7_feed_43 : decode cX7_feed 43 = .ok (.getfield 12, 3) := by decide +kernel
theorem dX7_feed_46 : decode cX7_feed 46 = .ok (.iload 4, 2) := by decide +kernel
theorem dX7_feed_48 : decode cX7_feed 48 = .ok (.invokevirtual 69, 3) := by decide +kernel
theorem dX7_feed_51 : decode cX7_feed 51 = .ok (.aload_n 0, 1) := by decide +kernel
theorem dX7_feed_52 : decode cX7_feed 52 = .ok (.getfield 12, 3) := by decide +kernel
theorem dX7_feed_55 : decode cX7_feed 55 = .ok (.iload 5, 2) := by decide +kernel
theorem dX7_feed_57 : decode cX7_feed 57 = .ok (.invokevirtual 69, 3) := by decide +kernel
theorem dX7_feed_60 : decode cX7_feed 60 = .ok (.aload_n 0, 1) := by decide +kernel
theorem dX7_feed_61 : decode cX7_feed 61 = .ok (.getfield 12, 3) := by decide +kernel
theorem dX7_feed_64 : decode cX7_feed 64 = .ok (.getfield 66, 3) := by decide +kernel
theorem dX7_feed_67 : decode cX7_feed 67 = .ok (.ireturn, 1) := by decide +kernel
theorem dX7_back_0 : decode cX7_back 0 = .ok (.iload_n 1, 1) := by decide +kernel
theorem dX7_back_1 : decode cX7_back 1 = .ok (.ifCond .lt 14, 3) := by decide +kernel
theorem dX7_back_4 : decode cX7_back 4 = .ok (.iload_n 1, 1) := by decide +kernel
theorem dX7_back_5 : decode cX7_back 5 = .ok (.aload_n 0, 1) := by decide +kernel
theorem dX7_back_6 : decode cX7_back 6 = .ok (.getfield 12, 3) := by decide +kernel
theorem dX7_back_9 : decode cX7_back 9 = .ok (.getfield 66, 3) := by decide +kernel
theorem dX7_back_12 : decode cX7_back 12 = .ok (.if_icmp .le 5, 3) := by decide +kernel
theorem dX7_back_15 : decode cX7_back 15 = .ok (.iconst (-1), 1) := by decide +kernel
theorem dX7_back_16 : decode cX7_back 16 = .ok (.ireturn, 1) := by decide +kernel
theorem dX7_back_17 : decode cX7_back 17 = .ok (.aload_n 0, 1) := by decide +kernel
theorem dX7_back_18 : decode cX7_back 18 = .ok (.getfield 12, 3) := by decide +kernel
theorem dX7_back_21 : decode cX7_back 21 = .ok (.dup, 1) := by decide +kernel
theorem dX7_back_22 : decode cX7_back 22 = .ok (.getfield 66, 3) := by decide +kernel
theorem dX7_back_25 : decode cX7_back 25 = .ok (.iload_n 1, 1) := by decide +kernel
theorem dX7_back_26 : decode cX7_back 26 = .ok (.isub, 1) := by decide +kernel
theorem dX7_back_27 : decode cX7_back 27 = .ok (.putfield 66, 3) := by decide +kernel
theorem dX7_back_30 : decode cX7_back 30 = .ok (.aload_n 0, 1) := by decide +kernel
theorem dX7_back_31 : decode cX7_back 31 = .ok (.getfield 12, 3) := by decide +kernel
theorem dX7_back_34 : decode cX7_back 34 = .ok (.getfield 66, 3) := by decide +kernel
theorem dX7_back_37 : decode cX7_back 37 = .ok (.ireturn, 1) := by decide +kernel
theorem dX7_read_0 : decode cX7_read 0 = .ok (.aload_n 0, 1) := by decide +kernel
theorem dX7_read_1 : decode cX7_read 1 = .ok (.getfield 12, 3) := by decide +kernel
theorem dX7_read_4 : decode cX7_read 4 = .ok (.invokevirtual 73, 3) := by decide +kernel
theorem dX7_read_7 : decode cX7_read 7 = .ok (.istore_n 1, 1) := by decide +kernel
theorem dX7_read_8 : decode cX7_read 8 = .ok (.aload_n 0, 1) := by decide +kernel
theorem dX7_read_9 : decode cX7_read 9 = .ok (.getfield 12, 3) := by decide +kernel
theorem dX7_read_12 : decode cX7_read 12 = .ok (.iconst 0, 1) := by decide +kernel
theorem dX7_read_13 : decode cX7_read 13 = .ok (.putfield 66, 3) := by decide +kernel
theorem dX7_read_16 : decode cX7_read 16 = .ok (.iload_n 1, 1) := by decide +kernel
theorem dX7_read_17 : decode cX7_read 17 = .ok (.ifCond .ne 7, 3) := by decide +kernel
theorem dX7_read_20 : decode cX7_read 20 = .ok (.aload_n 0, 1) := by decide +kernel
theorem dX7_read_21 : decode cX7_read 21 = .ok (.invokevirtual 77, 3) := by decide +kernel
theorem dX7_read_24 : decode cX7_read 24 = .ok (.iload_n 1, 1) := by decide +kernel
theorem dX7_read_25 : decode cX7_read 25 = .ok (.ireturn, 1) := by decide +kernel
theorem dX7_takeDraft_0 : decode cX7_takeDraft 0 = .ok (.aload_n 0, 1) := by decide +kernel
theorem dX7_takeDraft_1 : decode cX7_takeDraft 1 = .ok (.getfield 19, 3) := by decide +kernel
theorem dX7_takeDraft_4 : decode cX7_takeDraft 4 = .ok (.astore_n 1, 1) := by decide +kernel
theorem dX7_takeDraft_5 : decode cX7_takeDraft 5 = .ok (.aload_n 0, 1) := by decide +kernel
theorem dX7_takeDraft_6 : decode cX7_takeDraft 6 = .ok (.aload_n 0, 1) := by decide +kernel
theorem dX7_takeDraft_7 : decode cX7_takeDraft 7 = .ok (.getfield 12, 3) := by decide +kernel
theorem dX7_takeDraft_10 : decode cX7_takeDraft 10 = .ok (.getfield 80, 3) := by decide +kernel
theorem dX7_takeDraft_13 : decode cX7_takeDraft 13 = .ok (.putfield 19, 3) := by decide +kernel
theorem dX7_takeDraft_16 : decode cX7_takeDraft 16 = .ok (.aload_n 0, 1) := by decide +kernel
theorem dX7_takeDraft_17 : decode cX7_takeDraft 17 = .ok (.getfield 12, 3) := by decide +kernel
theorem dX7_takeDraft_20 : decode cX7_takeDraft 20 = .ok (.aload_n 1, 1) := by decide +kernel
theorem dX7_takeDraft_21 : decode cX7_takeDraft 21 = .ok (.putfield 80, 3) := by decide +kernel
theorem dX7_takeDraft_24 : decode cX7_takeDraft 24 = .ok (.aload_n 0, 1) := by decide +kernel
theorem dX7_takeDraft_25 : decode cX7_takeDraft 25 = .ok (.getfield 19, 3) := by decide +kernel
theorem dX7_takeDraft_28 : decode cX7_takeDraft 28 = .ok (.invokevirtual 83, 3) := by decide +kernel
theorem dX7_takeDraft_31 : decode cX7_takeDraft 31 = .ok (.aload_n 0, 1) := by decide +kernel
theorem dX7_takeDraft_32 : decode cX7_takeDraft 32 = .ok (.getfield 19, 3) := by decide +kernel
theorem dX7_takeDraft_35 : decode cX7_takeDraft 35 = .ok (.aload_n 0, 1) := by decide +kernel
theorem dX7_takeDraft_36 : decode cX7_takeDraft 36 = .ok (.getfield 26, 3) := by decide +kernel
theorem dX7_takeDraft_39 : decode cX7_takeDraft 39 = .ok (.invokevirtual 86, 3) := by decide +kernel
theorem dX7_takeDraft_42 : decode cX7_takeDraft 42 = .ok (.aload_n 0, 1) := by decide +kernel
theorem dX7_takeDraft_43 : decode cX7_takeDraft 43 = .ok (.getfield 36, 3) := by decide +kernel
theorem dX7_takeDraft_46 : decode cX7_takeDraft 46 = .ok (.invokevirtual 90, 3) := by decide +kernel
theorem dX7_takeDraft_49 : decode cX7_takeDraft 49 = .ok (.aload_n 0, 1) := by decide +kernel
theorem dX7_takeDraft_50 : decode cX7_takeDraft 50 = .ok (.iconst 0, 1) := by decide +kernel
theorem dX7_takeDraft_51 : decode cX7_takeDraft 51 = .ok (.putfield 44, 3) := by decide +kernel
theorem dX7_takeDraft_54 : decode cX7_takeDraft 54 = .ok (.aload_n 0, 1) := by decide +kernel
theorem dX7_takeDraft_55 : decode cX7_takeDraft 55 = .ok (.getfield 51, 3) := by decide +kernel
theorem dX7_takeDraft_58 : decode cX7_takeDraft 58 = .ok (.iconst 0, 1) := by decide +kernel
theorem dX7_takeDraft_59 : decode cX7_takeDraft 59 = .ok (.putfield 93, 3) := by decide +kernel
theorem dX7_takeDraft_62 : decode cX7_takeDraft 62 = .ok (.return_, 1) := by decide +kernel
theorem dX7_place_0 : decode cX7_place 0 = .ok (.aload_n 0, 1) := by decide +kernel
theorem dX7_place_1 : decode cX7_place 1 = .ok (.getfield 12, 3) := by decide +kernel
theorem dX7_place_4 : decode cX7_place 4 = .ok (.getfield 96, 3) := by decide +kernel
theorem dX7_place_7 : decode cX7_place 7 = .ok (.ireturn, 1) := by decide +kernel
theorem dX7_boat_0 : decode cX7_boat 0 = .ok (.aload_n 0, 1) := by decide +kernel
theorem dX7_boat_1 : decode cX7_boat 1 = .ok (.iload_n 1, 1) := by decide +kernel
theorem dX7_boat_2 : decode cX7_boat 2 = .ok (.invokevirtual 99, 3) := by decide +kernel
theorem dX7_boat_5 : decode cX7_boat 5 = .ok (.ifCond .ne 5, 3) := by decide +kernel
theorem dX7_boat_8 : decode cX7_boat 8 = .ok (.iconst (-1), 1) := by decide +kernel
theorem dX7_boat_9 : decode cX7_boat 9 = .ok (.ireturn, 1) := by decide +kernel
theorem dX7_boat_10 : decode cX7_boat 10 = .ok (.iload_n 2, 1) := by decide +kernel
theorem dX7_boat_11 : decode cX7_boat 11 = .ok (.tableswitch 163 0 7 #[45, 54, 63, 72, 84, 96, 116, 147], 45) := by decide +kernel
theorem dX7_boat_56 : decode cX7_boat 56 = .ok (.aload_n 0, 1) := by decide +kernel
theorem dX7_boat_57 : decode cX7_boat 57 = .ok (.getfield 26, 3) := by decide +kernel
theorem dX7_boat_60 : decode cX7_boat 60 = .ok (.iload_n 1, 1) := by decide +kernel
theorem dX7_boat_61 : decode cX7_boat 61 = .ok (.invokevirtual 103, 3) := by decide +kernel
theorem dX7_boat_64 : decode cX7_boat 64 = .ok (.ireturn, 1) := by decide +kernel
theorem dX7_boat_65 : decode cX7_boat 65 = .ok (.aload_n 0, 1) := by decide +kernel
theorem dX7_boat_66 : decode cX7_boat 66 = .ok (.getfield 26, 3) := by decide +kernel
theorem dX7_boat_69 : decode cX7_boat 69 = .ok (.iload_n 1, 1) := by decide +kernel
theorem dX7_boat_70 : decode cX7_boat 70 = .ok (.invokevirtual 107, 3) := by decide +kernel
theorem dX7_boat_73 : decode cX7_boat 73 = .ok (.ireturn, 1) := by decide +kernel
theorem dX7_boat_74 : decode cX7_boat 74 = .ok (.aload_n 0, 1) := by decide +kernel
theorem dX7_boat_75 : decode cX7_boat 75 = .ok (.getfield 26, 3) := by decide +kernel
theorem dX7_boat_78 : decode cX7_boat 78 = .ok (.iload_n 1, 1) := by decide +kernel
theorem dX7_boat_79 : decode cX7_boat 79 = .ok (.invokevirtual 110, 3) := by decide +kernel
theorem dX7_boat_82 : decode cX7_boat 82 = .ok (.ireturn, 1) := by decide +kernel
theorem dX7_boat_83 : decode cX7_boat 83 = .ok (.aload_n 0, 1) := by decide +kernel
theorem dX7_boat_84 : decode cX7_boat 84 = .ok (.getfield 26, 3) := by decide +kernel
theorem dX7_boat_87 : decode cX7_boat 87 = .ok (.getfield 113, 3) := by decide +kernel
theorem dX7_boat_90 : decode cX7_boat 90 = .ok (.iload_n 1, 1) := by decide +kernel
theorem dX7_boat_91 : decode cX7_boat 91 = .ok (.ishr, 1) := by decide +kernel
theorem dX7_boat_92 : decode cX7_boat 92 = .ok (.iconst 1, 1) := by decide +kernel
theorem dX7_boat_93 : decode cX7_boat 93 = .ok (.iand, 1) := by decide +kernel
theorem dX7_boat_94 : decode cX7_boat 94 = .ok (.ireturn, 1) := by decide +kernel
theorem dX7_boat_95 : decode cX7_boat 95 = .ok (.aload_n 0, 1) := by decide +kernel
theorem dX7_boat_96 : decode cX7_boat 96 = .ok (.getfield 26, 3) := by decide +kernel
theorem dX7_boat_99 : decode cX7_boat 99 = .ok (.getfield 116, 3) := by decide +kernel
theorem dX7_boat_102 : decode cX7_boat 102 = .ok (.iload_n 1, 1) := by decide +kernel
theorem dX7_boat_103 : decode cX7_boat 103 = .ok (.ishr, 1) := by decide +kernel
theorem dX7_boat_104 : decode cX7_boat 104 = .ok (.iconst 1, 1) := by decide +kernel
theorem dX7_boat_105 : decode cX7_boat 105 = .ok (.iand, 1) := by decide +kernel
theorem dX7_boat_106 : decode cX7_boat 106 = .ok (.ireturn, 1) := by decide +kernel
theorem dX7_boat_107 : decode cX7_boat 107 = .ok (.aload_n 0, 1) := by decide +kernel
theorem dX7_boat_108 : decode cX7_boat 108 = .ok (.getfield 19, 3) := by decide +kernel
theorem dX7_boat_111 : decode cX7_boat 111 = .ok (.aload_n 0, 1) := by decide +kernel
theorem dX7_boat_112 : decode cX7_boat 112 = .ok (.getfield 26, 3) := by decide +kernel
theorem dX7_boat_115 : decode cX7_boat 115 = .ok (.iload_n 1, 1) := by decide +kernel
theorem dX7_boat_116 : decode cX7_boat 116 = .ok (.aload_n 0, 1) := by decide +kernel
theorem dX7_boat_117 : decode cX7_boat 117 = .ok (.getfield 19, 3) := by decide +kernel
theorem dX7_boat_120 : decode cX7_boat 120 = .ok (.getfield 119, 3) := by decide +kernel
theorem dX7_boat_123 : decode cX7_boat 123 = .ok (.invokevirtual 122, 3) := by decide +kernel
theorem dX7_boat_126 : decode cX7_boat 126 = .ok (.ireturn, 1) := by decide +kernel
theorem dX7_boat_127 : decode cX7_boat 127 = .ok (.aload_n 0, 1) := by decide +kernel
theorem dX7_boat_128 : decode cX7_boat 128 = .ok (.getfield 19, 3) := by decide +kernel
theorem dX7_boat_131 : decode cX7_boat 131 = .ok (.iload_n 1, 1) := by decide +kernel
theorem dX7_boat_132 : decode cX7_boat 132 = .ok (.aload_n 0, 1) := by decide +kernel
theorem dX7_boat_133 : decode cX7_boat 133 = .ok (.getfield 26, 3) := by decide +kernel
theorem dX7_boat_136 : decode cX7_boat 136 = .ok (.getfield 126, 3) := by decide +kernel
theorem dX7_boat_139 : decode cX7_boat 139 = .ok (.aload_n 0, 1) := by decide +kernel
theorem dX7_boat_140 : decode cX7_boat 140 = .ok (.getfield 19, 3) := by decide +kernel
theorem dX7_boat_143 : decode cX7_boat 143 = .ok (.getfield 119, 3) := by decide +kernel
theorem dX7_boat_146 : decode cX7_boat 146 = .ok (.invokevirtual 129, 3) := by decide +kernel
theorem dX7_boat_149 : decode cX7_boat 149 = .ok (.ifCond .eq 7, 3) := by decide +kernel
theorem dX7_boat_152 : decode cX7_boat 152 = .ok (.iconst 1, 1) := by decide +kernel
theorem dX7_boat_153 : decode cX7_boat 153 = .ok (.goto 4, 3) := by decide +kernel
theorem dX7_boat_156 : decode cX7_boat 156 = .ok (.iconst 0, 1) := by decide +kernel
theorem dX7_boat_157 : decode cX7_boat 157 = .ok (.ireturn, 1) := by decide +kernel
theorem dX7_boat_158 : decode cX7_boat 158 = .ok (.aload_n 0, 1) := by decide +kernel
theorem dX7_boat_159 : decode cX7_boat 159 = .ok (.getfield 26, 3) := by decide +kernel
theorem dX7_boat_162 : decode cX7_boat 162 = .ok (.iload_n 1, 1) := by decide +kernel
theorem dX7_boat_163 : decode cX7_boat 163 = .ok (.aload_n 0, 1) := by decide +kernel
theorem dX7_boat_164 : decode cX7_boat 164 = .ok (.getfield 19, 3) := by decide +kernel
theorem dX7_boat_167 : decode cX7_boat 167 = .ok (.getfield 133, 3) := by decide +kernel
theorem dX7_boat_170 : decode cX7_boat 170 = .ok (.invokevirtual 136, 3) := by decide +kernel
theorem dX7_boat_173 : decode cX7_boat 173 = .ok (.ireturn, 1) := by decide +kernel
theorem dX7_boat_174 : decode cX7_boat 174 = .ok (.iconst (-1), 1) := by decide +kernel
theorem dX7_boat_175 : decode cX7_boat 175 = .ok (.ireturn, 1) := by decide +kernel
theorem dX7_cell_0 : decode cX7_cell 0 = .ok (.aload_n 0, 1) := by decide +kernel
theorem dX7_cell_1 : decode cX7_cell 1 = .ok (.getfield 19, 3) := by decide +kernel
theorem dX7_cell_4 : decode cX7_cell 4 = .ok (.iload_n 1, 1) := by decide +kernel
theorem dX7_cell_5 : decode cX7_cell 5 = .ok (.iload_n 2, 1) := by decide +kernel
theorem dX7_cell_6 : decode cX7_cell 6 = .ok (.invokevirtual 140, 3) := by decide +kernel
theorem dX7_cell_9 : decode cX7_cell 9 = .ok (.ifCond .ne 5, 3) := by decide +kernel
theorem dX7_cell_12 : decode cX7_cell 12 = .ok (.iconst (-1), 1) := by decide +kernel
theorem dX7_cell_13 : decode cX7_cell 13 = .ok (.ireturn, 1) := by decide +kernel
theorem dX7_cell_14 : decode cX7_cell 14 = .ok (.bipush 8, 2) := by decide +kernel
theorem dX7_cell_16 : decode cX7_cell 16 = .ok (.iload_n 2, 1) := by decide +kernel
theorem dX7_cell_17 : decode cX7_cell 17 = .ok (.imul, 1) := by decide +kernel
theorem dX7_cell_18 : decode cX7_cell 18 = .ok (.iload_n 1, 1) := by decide +kernel
theorem dX7_cell_19 : decode cX7_cell 19 = .ok (.iadd, 1) := by decide +kernel
theorem dX7_cell_20 : decode cX7_cell 20 = .ok (.istore 4, 2) := by decide +kernel
theorem dX7_cell_22 : decode cX7_cell 22 = .ok (.iload_n 3, 1) := by decide +kernel
theorem dX7_cell_23 : decode cX7_cell 23 = .ok (.tableswitch 60 0 2 #[25, 36, 53], 25) := by decide +kernel
theorem dX7_cell_48 : decode cX7_cell 48 = .ok (.aload_n 0, 1) := by decide +kernel
theorem dX7_cell_49 : decode cX7_cell 49 = .ok (.getfield 19, 3) := by decide +kernel
theorem dX7_cell_52 : decode cX7_cell 52 = .ok (.getfield 144, 3) := by decide +kernel
theorem dX7_cell_55 : decode cX7_cell 55 = .ok (.iload 4, 2) := by decide +kernel
theorem dX7_cell_57 : decode cX7_cell 57 = .ok (.iaload, 1) := by decide +kernel
theorem dX7_cell_58 : decode cX7_cell 58 = .ok (.ireturn, 1) := by decide +kernel
theorem dX7_cell_59 : decode cX7_cell 59 = .ok (.aload_n 0, 1) := by decide +kernel
theorem dX7_cell_60 : decode cX7_cell 60 = .ok (.getfield 26, 3) := by decide +kernel
theorem dX7_cell_63 : decode cX7_cell 63 = .ok (.iload 4, 2) := by decide +kernel
theorem dX7_cell_65 : decode cX7_cell 65 = .ok (.aload_n 0, 1) := by decide +kernel
theorem dX7_cell_66 : decode cX7_cell 66 = .ok (.getfield 19, 3) := by decide +kernel
theorem dX7_cell_69 : decode cX7_cell 69 = .ok (.getfield 133, 3) := by decide +kernel
theorem dX7_cell_72 : decode cX7_cell 72 = .ok (.invokevirtual 148, 3) := by decide +kernel
theorem dX7_cell_75 : decode cX7_cell 75 = .ok (.ireturn, 1) := by decide +kernel
theorem dX7_cell_76 : decode cX7_cell 76 = .ok (.aload_n 0, 1) := by decide +kernel
theorem dX7_cell_77 : decode cX7_cell 77 = .ok (.iload 4, 2) := by decide +kernel
theorem dX7_cell_79 : decode cX7_cell 79 = .ok (.invokevirtual 151, 3) := by decide +kernel
theorem dX7_cell_82 : decode cX7_cell 82 = .ok (.ireturn, 1) := by decide +kernel
theorem dX7_cell_83 : decode cX7_cell 83 = .ok (.iconst (-1), 1) := by decide +kernel
theorem dX7_cell_84 : decode cX7_cell 84 = .ok (.ireturn, 1) := by decide +kernel
theorem dX7_boatsIn_0 : decode cX7_boatsIn 0 = .ok (.iconst 0, 1) := by decide +kernel
theorem dX7_boatsIn_1 : decode cX7_boatsIn 1 = .ok (.istore_n 2, 1) := by decide +kernel
theorem dX7_boatsIn_2 : decode cX7_boatsIn 2 = .ok (.iconst 0, 1) := by decide +kernel
theorem dX7_boatsIn_3 : decode cX7_boatsIn 3 = .ok (.istore_n 3, 1) := by decide +kernel
theorem dX7_boatsIn_4 : decode cX7_boatsIn 4 = .ok (.iload_n 3, 1) := by decide +kernel
theorem dX7_boatsIn_5 : decode cX7_boatsIn 5 = .ok (.aload_n 0, 1) := by decide +kernel
theorem dX7_boatsIn_6 : decode cX7_boatsIn 6 = .ok (.getfield 19, 3) := by decide +kernel
theorem dX7_boatsIn_9 : decode cX7_boatsIn 9 = .ok (.getfield 133, 3) := by decide +kernel
theorem dX7_boatsIn_12 : decode cX7_boatsIn 12 = .ok (.if_icmp .ge 39, 3) := by decide +kernel
theorem dX7_boatsIn_15 : decode cX7_boatsIn 15 = .ok (.aload_n 0, 1) := by decide +kernel
theorem dX7_boatsIn_16 : decode cX7_boatsIn 16 = .ok (.getfield 26, 3) := by decide +kernel
theorem dX7_boatsIn_19 : decode cX7_boatsIn 19 = .ok (.iload_n 3, 1) := by decide +kernel
theorem dX7_boatsIn_20 : decode cX7_boatsIn 20 = .ok (.invokevirtual 154, 3) := by decide +kernel
theorem dX7_boatsIn_23 : decode cX7_boatsIn 23 = .ok (.ifCond .eq 22, 3) := by decide +kernel
theorem dX7_boatsIn_26 : decode cX7_boatsIn 26 = .ok (.aload_n 0, 1) := by decide +kernel
theorem dX7_boatsIn_27 : decode cX7_boatsIn 27 = .ok (.getfield 26, 3) := by decide +kernel
theorem dX7_boatsIn_30 : decode cX7_boatsIn 30 = .ok (.getfield 157, 3) := by decide +kernel
theorem dX7_boatsIn_33 : decode cX7_boatsIn 33 = .ok (.iload_n 3, 1) := by decide +kernel
theorem dX7_boatsIn_34 : decode cX7_boatsIn 34 = .ok (.iaload, 1) := by decide +kernel
theorem dX7_boatsIn_35 : decode cX7_boatsIn 35 = .ok (.iload_n 1, 1) := by decide +kernel
theorem dX7_boatsIn_36 : decode cX7_boatsIn 36 = .ok (.if_icmp .ne 9, 3) := by decide +kernel
theorem dX7_boatsIn_39 : decode cX7_boatsIn 39 = .ok (.iload_n 2, 1) := by decide +kernel
theorem dX7_boatsIn_40 : decode cX7_boatsIn 40 = .ok (.iconst 1, 1) := by decide +kernel
theorem dX7_boatsIn_41 : decode cX7_boatsIn 41 = .ok (.iload_n 3, 1) := by decide +kernel
theorem dX7_boatsIn_42 : decode cX7_boatsIn 42 = .ok (.ishl, 1) := by decide +kernel
theorem dX7_boatsIn_43 : decode cX7_boatsIn 43 = .ok (.ior, 1) := by decide +kernel
theorem dX7_boatsIn_44 : decode cX7_boatsIn 44 = .ok (.istore_n 2, 1) := by decide +kernel
theorem dX7_boatsIn_45 : decode cX7_boatsIn 45 = .ok (.iinc 3 1, 3) := by decide +kernel
theorem dX7_boatsIn_48 : decode cX7_boatsIn 48 = .ok (.goto (-44), 3) := by decide +kernel
theorem dX7_boatsIn_51 : decode cX7_boatsIn 51 = .ok (.iload_n 2, 1) := by decide +kernel
theorem dX7_boatsIn_52 : decode cX7_boatsIn 52 = .ok (.ireturn, 1) := by decide +kernel
theorem dX7_laid_0 : decode cX7_laid 0 = .ok (.aload_n 0, 1) := by decide +kernel
theorem dX7_laid_1 : decode cX7_laid 1 = .ok (.getfield 19, 3) := by decide +kernel
theorem dX7_laid_4 : decode cX7_laid 4 = .ok (.iload_n 1, 1) := by decide +kernel
theorem dX7_laid_5 : decode cX7_laid 5 = .ok (.iload_n 2, 1) := by decide +kernel
theorem dX7_laid_6 : decode cX7_laid 6 = .ok (.invokevirtual 140, 3) := by decide +kernel
theorem dX7_laid_9 : decode cX7_laid 9 = .ok (.ifCond .eq 11, 3) := by decide +kernel
theorem dX7_laid_12 : decode cX7_laid 12 = .ok (.aload_n 0, 1) := by decide +kernel
theorem dX7_laid_13 : decode cX7_laid 13 = .ok (.iload_n 3, 1) := by decide +kernel
theorem dX7_laid_14 : decode cX7_laid 14 = .ok (.invokevirtual 99, 3) := by decide +kernel
theorem dX7_laid_17 : decode cX7_laid 17 = .ok (.ifCond .ne 5, 3) := by decide +kernel
theorem dX7_laid_20 : decode cX7_laid 20 = .ok (.iconst (-1), 1) := by decide +kernel
theorem dX7_laid_21 : decode cX7_laid 21 = .ok (.ireturn, 1) := by decide +kernel
theorem dX7_laid_22 : decode cX7_laid 22 = .ok (.bipush 40, 2) := by decide +kernel
theorem dX7_laid_24 : decode cX7_laid 24 = .ok (.iload_n 3, 1) := by decide +kernel
theorem dX7_laid_25 : decode cX7_laid 25 = .ok (.imul, 1) := by decide +kernel
theorem dX7_laid_26 : decode cX7_laid 26 = .ok (.bipush 8, 2) := by decide +kernel
theorem dX7_laid_28 : decode cX7_laid 28 = .ok (.iload_n 2, 1) := by decide +kernel
theorem dX7_laid_29 : decode cX7_laid 29 = .ok (.imul, 1) := by decide +kernel
theorem dX7_laid_30 : decode cX7_laid 30 = .ok (.iadd, 1) := by decide +kernel
theorem dX7_laid_31 : decode cX7_laid 31 = .ok (.iload_n 1, 1) := by decide +kernel
theorem dX7_laid_32 : decode cX7_laid 32 = .ok (.iadd, 1) := by decide +kernel
theorem dX7_laid_33 : decode cX7_laid 33 = .ok (.istore 5, 2) := by decide +kernel
theorem dX7_laid_35 : decode cX7_laid 35 = .ok (.aload_n 0, 1) := by decide +kernel
theorem dX7_laid_36 : decode cX7_laid 36 = .ok (.getfield 26, 3) := by decide +kernel
theorem dX7_laid_39 : decode cX7_laid 39 = .ok (.iload 5, 2) := by decide +kernel
theorem dX7_laid_41 : decode cX7_laid 41 = .ok (.invokevirtual 160, 3) := by decide +kernel
theorem dX7_laid_44 : decode cX7_laid 44 = .ok (.ifCond .ne 6, 3) := by decide +kernel
theorem dX7_laid_47 : decode cX7_laid 47 = .ok (.bipush (-2), 2) := by decide +kernel
theorem dX7_laid_49 : decode cX7_laid 49 = .ok (.ireturn, 1) := by decide +kernel
theorem dX7_laid_50 : decode cX7_laid 50 = .ok (.iload 4, 2) := by decide +kernel
theorem dX7_laid_52 : decode cX7_laid 52 = .ok (.ifCond .eq 15, 3) := by decide +kernel
theorem dX7_laid_55 : decode cX7_laid 55 = .ok (.aload_n 0, 1) := by decide +kernel
theorem dX7_laid_56 : decode cX7_laid 56 = .ok (.getfield 26, 3) := by decide +kernel
theorem dX7_laid_59 : decode cX7_laid 59 = .ok (.iload 5, 2) := by decide +kernel
theorem dX7_laid_61 : decode cX7_laid 61 = .ok (.invokevirtual 163, 3) := by decide +kernel
theorem dX7_laid_64 : decode cX7_laid 64 = .ok (.goto 12, 3) := by decide +kernel
theorem dX7_laid_67 : decode cX7_laid 67 = .ok (.aload_n 0, 1) := by decide +kernel
theorem dX7_laid_68 : decode cX7_laid 68 = .ok (.getfield 26, 3) := by decide +kernel
theorem dX7_laid_71 : decode cX7_laid 71 = .ok (.iload 5, 2) := by decide +kernel
theorem dX7_laid_73 : decode cX7_laid 73 = .ok (.invokevirtual 166, 3) := by decide +kernel
theorem dX7_laid_76 : decode cX7_laid 76 = .ok (.ireturn, 1) := by decide +kernel
theorem dX7_wind_0 : decode cX7_wind 0 = .ok (.iload_n 1, 1) := by decide +kernel
theorem dX7_wind_1 : decode cX7_wind 1 = .ok (.iconst 0, 1) := by decide +kernel
theorem dX7_wind_2 : decode cX7_wind 2 = .ok (.sipush 999, 3) := by decide +kernel
theorem dX7_wind_5 : decode cX7_wind 5 = .ok (.invokestatic 169, 3) := by decide +kernel
theorem dX7_wind_8 : decode cX7_wind 8 = .ok (.ifCond .eq 14, 3) := by decide +kernel
theorem dX7_wind_11 : decode cX7_wind 11 = .ok (.aload_n 0, 1) := by decide +kernel
theorem dX7_wind_12 : decode cX7_wind 12 = .ok (.getfield 19, 3) := by decide +kernel
theorem dX7_wind_15 : decode cX7_wind 15 = .ok (.iload_n 1, 1) := by decide +kernel
theorem dX7_wind_16 : decode cX7_wind 16 = .ok (.invokevirtual 172, 3) := by decide +kernel
theorem dX7_wind_19 : decode cX7_wind 19 = .ok (.goto 4, 3) := by decide +kernel
theorem dX7_wind_22 : decode cX7_wind 22 = .ok (.iconst (-1), 1) := by decide +kernel
theorem dX7_wind_23 : decode cX7_wind 23 = .ok (.ireturn, 1) := by decide +kernel
theorem dX7_steers_0 : decode cX7_steers 0 = .ok (.aload_n 0, 1) := by decide +kernel
theorem dX7_steers_1 : decode cX7_steers 1 = .ok (.iload_n 1, 1) := by decide +kernel
theorem dX7_steers_2 : decode cX7_steers 2 = .ok (.invokevirtual 99, 3) := by decide +kernel
theorem dX7_steers_5 : decode cX7_steers 5 = .ok (.ifCond .ne 5, 3) := by decide +kernel
theorem dX7_steers_8 : decode cX7_steers 8 = .ok (.iconst (-1), 1) := by decide +kernel
theorem dX7_steers_9 : decode cX7_steers 9 = .ok (.ireturn, 1) := by decide +kernel
theorem dX7_steers_10 : decode cX7_steers 10 = .ok (.aload_n 0, 1) := by decide +kernel
theorem dX7_steers_11 : decode cX7_steers 11 = .ok (.getfield 26, 3) := by decide +kernel
theorem dX7_steers_14 : decode cX7_steers 14 = .ok (.iload_n 1, 1) := by decide +kernel
theorem dX7_steers_15 : decode cX7_steers 15 = .ok (.invokevirtual 154, 3) := by decide +kernel
theorem dX7_steers_18 : decode cX7_steers 18 = .ok (.ifCond .eq 39, 3) := by decide +kernel
theorem dX7_steers_21 : decode cX7_steers 21 = .ok (.aload_n 0, 1) := by decide +kernel
theorem dX7_steers_22 : decode cX7_steers 22 = .ok (.getfield 19, 3) := by decide +kernel
theorem dX7_steers_25 : decode cX7_steers 25 = .ok (.aload_n 0, 1) := by decide +kernel
theorem dX7_steers_26 : decode cX7_steers 26 = .ok (.getfield 26, 3) := by decide +kernel
theorem dX7_steers_29 : decode cX7_steers 29 = .ok (.iload_n 1, 1) := by decide +kernel
theorem dX7_steers_30 : decode cX7_steers 30 = .ok (.aload_n 0, 1) := by decide +kernel
theorem dX7_steers_31 : decode cX7_steers 31 = .ok (.getfield 19, 3) := by decide +kernel
theorem dX7_steers_34 : decode cX7_steers 34 = .ok (.aload_n 0, 1) := by decide +kernel
theorem dX7_steers_35 : decode cX7_steers 35 = .ok (.getfield 26, 3) := by decide +kernel
theorem dX7_steers_38 : decode cX7_steers 38 = .ok (.getfield 126, 3) := by decide +kernel
theorem dX7_steers_41 : decode cX7_steers 41 = .ok (.invokevirtual 172, 3) := by decide +kernel
theorem dX7_steers_44 : decode cX7_steers 44 = .ok (.aload_n 0, 1) := by decide +kernel
theorem dX7_steers_45 : decode cX7_steers 45 = .ok (.getfield 19, 3) := by decide +kernel
theorem dX7_steers_48 : decode cX7_steers 48 = .ok (.getfield 119, 3) := by decide +kernel
theorem dX7_steers_51 : decode cX7_steers 51 = .ok (.invokevirtual 175, 3) := by decide +kernel
theorem dX7_steers_54 : decode cX7_steers 54 = .ok (.goto 5, 3) := by decide +kernel
theorem dX7_steers_57 : decode cX7_steers 57 = .ok (.bipush (-2), 2) := by decide +kernel
theorem dX7_steers_59 : decode cX7_steers 59 = .ok (.ireturn, 1) := by decide +kernel
theorem dX7_hours_0 : decode cX7_hours 0 = .ok (.iload_n 1, 1) := by decide +kernel
theorem dX7_hours_1 : decode cX7_hours 1 = .ok (.iconst 0, 1) := by decide +kernel
theorem dX7_hours_2 : decode cX7_hours 2 = .ok (.bipush 100, 2) := by decide +kernel
theorem dX7_hours_4 : decode cX7_hours 4 = .ok (.invokestatic 169, 3) := by decide +kernel
theorem dX7_hours_7 : decode cX7_hours 7 = .ok (.ifCond .ne 5, 3) := by decide +kernel
theorem dX7_hours_10 : decode cX7_hours 10 = .ok (.iconst (-1), 1) := by decide +kernel
theorem dX7_hours_11 : decode cX7_hours 11 = .ok (.ireturn, 1) := by decide +kernel
theorem dX7_hours_12 : decode cX7_hours 12 = .ok (.iload_n 1, 1) := by decide +kernel
theorem dX7_hours_13 : decode cX7_hours 13 = .ok (.ifCond .le 33, 3) := by decide +kernel
theorem dX7_hours_16 : decode cX7_hours 16 = .ok (.aload_n 0, 1) := by decide +kernel
theorem dX7_hours_17 : decode cX7_hours 17 = .ok (.getfield 36, 3) := by decide +kernel
theorem dX7_hours_20 : decode cX7_hours 20 = .ok (.aload_n 0, 1) := by decide +kernel
theorem dX7_hours_21 : decode cX7_hours 21 = .ok (.getfield 26, 3) := by decide +kernel
theorem dX7_hours_24 : decode cX7_hours 24 = .ok (.invokevirtual 179, 3) := by decide +kernel
theorem dX7_hours_27 : decode cX7_hours 27 = .ok (.aload_n 0, 1) := by decide +kernel
theorem dX7_hours_28 : decode cX7_hours 28 = .ok (.getfield 19, 3) := by decide +kernel
theorem dX7_hours_31 : decode cX7_hours 31 = .ok (.aload_n 0, 1) := by decide +kernel
theorem dX7_hours_32 : decode cX7_hours 32 = .ok (.getfield 26, 3) := by decide +kernel
theorem dX7_hours_35 : decode cX7_hours 35 = .ok (.iload_n 1, 1) := by decide +kernel
theorem dX7_hours_36 : decode cX7_hours 36 = .ok (.aload_n 0, 1) := by decide +kernel
theorem dX7_hours_37 : decode cX7_hours 37 = .ok (.getfield 19, 3) := by decide +kernel
theorem dX7_hours_40 : decode cX7_hours 40 = .ok (.getfield 119, 3) := by decide +kernel
theorem dX7_hours_43 : decode cX7_hours 43 = .ok (.invokevirtual 182, 3) := by decide +kernel
theorem dX7_hours_46 : decode cX7_hours 46 = .ok (.aload_n 0, 1) := by decide +kernel
theorem dX7_hours_47 : decode cX7_hours 47 = .ok (.getfield 26, 3) := by decide +kernel
theorem dX7_hours_50 : decode cX7_hours 50 = .ok (.getfield 126, 3) := by decide +kernel
theorem dX7_hours_53 : decode cX7_hours 53 = .ok (.ireturn, 1) := by decide +kernel
theorem dX7_go_0 : decode cX7_go 0 = .ok (.aload_n 0, 1) := by decide +kernel
theorem dX7_go_1 : decode cX7_go 1 = .ok (.iload_n 1, 1) := by decide +kernel
theorem dX7_go_2 : decode cX7_go 2 = .ok (.invokevirtual 99, 3) := by decide +kernel
theorem dX7_go_5 : decode cX7_go 5 = .ok (.ifCond .eq 12, 3) := by decide +kernel
theorem dX7_go_8 : decode cX7_go 8 = .ok (.iload_n 2, 1) := by decide +kernel
theorem dX7_go_9 : decode cX7_go 9 = .ok (.iconst 1, 1) := by decide +kernel
theorem dX7_go_10 : decode cX7_go 10 = .ok (.iconst 4, 1) := by decide +kernel
theorem dX7_go_11 : decode cX7_go 11 = .ok (.invokestatic 169, 3) := by decide +kernel
theorem dX7_go_14 : decode cX7_go 14 = .ok (.ifCond .ne 5, 3) := by decide +kernel
theorem dX7_go_17 : decode cX7_go 17 = .ok (.iconst (-1), 1) := by decide +kernel
theorem dX7_go_18 : decode cX7_go 18 = .ok (.ireturn, 1) := by decide +kernel
theorem dX7_go_19 : decode cX7_go 19 = .ok (.aload_n 0, 1) := by decide +kernel
theorem dX7_go_20 : decode cX7_go 20 = .ok (.getfield 26, 3) := by decide +kernel
theorem dX7_go_23 : decode cX7_go 23 = .ok (.iload_n 1, 1) := by decide +kernel
theorem dX7_go_24 : decode cX7_go 24 = .ok (.invokevirtual 154, 3) := by decide +kernel
theorem dX7_go_27 : decode cX7_go 27 = .ok (.ifCond .ne 6, 3) := by decide +kernel
theorem dX7_go_30 : decode cX7_go 30 = .ok (.bipush (-2), 2) := by decide +kernel
theorem dX7_go_32 : decode cX7_go 32 = .ok (.ireturn, 1) := by decide +kernel
theorem dX7_go_33 : decode cX7_go 33 = .ok (.aload_n 0, 1) := by decide +kernel
theorem dX7_go_34 : decode cX7_go 34 = .ok (.getfield 36, 3) := by decide +kernel
theorem dX7_go_37 : decode cX7_go 37 = .ok (.aload_n 0, 1) := by decide +kernel
theorem dX7_go_38 : decode cX7_go 38 = .ok (.getfield 26, 3) := by decide +kernel
theorem dX7_go_41 : decode cX7_go 41 = .ok (.invokevirtual 179, 3) := by decide +kernel
theorem dX7_go_44 : decode cX7_go 44 = .ok (.aload_n 0, 1) := by decide +kernel
theorem dX7_go_45 : decode cX7_go 45 = .ok (.getfield 19, 3) := by decide +kernel
theorem dX7_go_48 : decode cX7_go 48 = .ok (.aload_n 0, 1) := by decide +kernel
theorem dX7_go_49 : decode cX7_go 49 = .ok (.getfield 26, 3) := by decide +kernel
theorem dX7_go_52 : decode cX7_go 52 = .ok (.iload_n 1, 1) := by decide +kernel
theorem dX7_go_53 : decode cX7_go 53 = .ok (.iload_n 2, 1) := by decide +kernel
theorem dX7_go_54 : decode cX7_go 54 = .ok (.invokevirtual 186, 3) := by decide +kernel
theorem dX7_go_57 : decode cX7_go 57 = .ok (.ireturn, 1) := by decide +kernel
theorem dX7_pan_0 : decode cX7_pan 0 = .ok (.aload_n 0, 1) := by decide +kernel
theorem dX7_pan_1 : decode cX7_pan 1 = .ok (.iload_n 1, 1) := by decide +kernel
theorem dX7_pan_2 : decode cX7_pan 2 = .ok (.invokevirtual 99, 3) := by decide +kernel
theorem dX7_pan_5 : decode cX7_pan 5 = .ok (.ifCond .eq 26, 3) := by decide +kernel
theorem dX7_pan_8 : decode cX7_pan 8 = .ok (.aload_n 0, 1) := by decide +kernel
theorem dX7_pan_9 : decode cX7_pan 9 = .ok (.getfield 26, 3) := by decide +kernel
theorem dX7_pan_12 : decode cX7_pan 12 = .ok (.getfield 116, 3) := by decide +kernel
theorem dX7_pan_15 : decode cX7_pan 15 = .ok (.iload_n 1, 1) := by decide +kernel
theorem dX7_pan_16 : decode cX7_pan 16 = .ok (.ishr, 1) := by decide +kernel
theorem dX7_pan_17 : decode cX7_pan 17 = .ok (.iconst 1, 1) := by decide +kernel
theorem dX7_pan_18 : decode cX7_pan 18 = .ok (.iand, 1) := by decide +kernel
theorem dX7_pan_19 : decode cX7_pan 19 = .ok (.iload_n 2, 1) := by decide +kernel
theorem dX7_pan_20 : decode cX7_pan 20 = .ok (.ifCond .eq 7, 3) := by decide +kernel
theorem dX7_pan_23 : decode cX7_pan 23 = .ok (.iconst 1, 1) := by decide +kernel
theorem dX7_pan_24 : decode cX7_pan 24 = .ok (.goto 4, 3) := by decide +kernel
theorem dX7_pan_27 : decode cX7_pan 27 = .ok (.iconst 0, 1) := by decide +kernel
theorem dX7_pan_28 : decode cX7_pan 28 = .ok (.if_icmp .ne 5, 3) := by decide +kernel
theorem dX7_pan_31 : decode cX7_pan 31 = .ok (.iconst 0, 1) := by decide +kernel
theorem dX7_pan_32 : decode cX7_pan 32 = .ok (.ireturn, 1) := by decide +kernel
theorem dX7_pan_33 : decode cX7_pan 33 = .ok (.aload_n 0, 1) := by decide +kernel
theorem dX7_pan_34 : decode cX7_pan 34 = .ok (.getfield 36, 3) := by decide +kernel
theorem dX7_pan_37 : decode cX7_pan 37 = .ok (.aload_n 0, 1) := by decide +kernel
theorem dX7_pan_38 : decode cX7_pan 38 = .ok (.getfield 26, 3) := by decide +kernel
theorem dX7_pan_41 : decode cX7_pan 41 = .ok (.invokevirtual 179, 3) := by decide +kernel
theorem dX7_pan_44 : decode cX7_pan 44 = .ok (.aload_n 0, 1) := by decide +kernel
theorem dX7_pan_45 : decode cX7_pan 45 = .ok (.getfield 26, 3) := by decide +kernel
theorem dX7_pan_48 : decode cX7_pan 48 = .ok (.dup, 1) := by decide +kernel
theorem dX7_pan_49 : decode cX7_pan 49 = .ok (.getfield 116, 3) := by decide +kernel
theorem dX7_pan_52 : decode cX7_pan 52 = .ok (.iconst 1, 1) := by decide +kernel
theorem dX7_pan_53 : decode cX7_pan 53 = .ok (.iload_n 1, 1) := by decide +kernel
theorem dX7_pan_54 : decode cX7_pan 54 = .ok (.ishl, 1) := by decide +kernel
theorem dX7_pan_55 : decode cX7_pan 55 = .ok (.ixor, 1) := by decide +kernel
theorem dX7_pan_56 : decode cX7_pan 56 = .ok (.putfield 116, 3) := by decide +kernel
theorem dX7_pan_59 : decode cX7_pan 59 = .ok (.iconst 1, 1) := by decide +kernel
theorem dX7_pan_60 : decode cX7_pan 60 = .ok (.ireturn, 1) := by decide +kernel
theorem dX7_undo_0 : decode cX7_undo 0 = .ok (.aload_n 0, 1) := by decide +kernel
theorem dX7_undo_1 : decode cX7_undo 1 = .ok (.getfield 36, 3) := by decide +kernel
theorem dX7_undo_4 : decode cX7_undo 4 = .ok (.aload_n 0, 1) := by decide +kernel
theorem dX7_undo_5 : decode cX7_undo 5 = .ok (.getfield 26, 3) := by decide +kernel
theorem dX7_undo_8 : decode cX7_undo 8 = .ok (.invokevirtual 189, 3) := by decide +kernel
theorem dX7_undo_11 : decode cX7_undo 11 = .ok (.ireturn, 1) := by decide +kernel
theorem dX7_then_0 : decode cX7_then 0 = .ok (.aload_n 0, 1) := by decide +kernel
theorem dX7_then_1 : decode cX7_then 1 = .ok (.iload_n 1, 1) := by decide +kernel
theorem dX7_then_2 : decode cX7_then 2 = .ok (.invokevirtual 99, 3) := by decide +kernel
theorem dX7_then_5 : decode cX7_then 5 = .ok (.ifCond .eq 22, 3) := by decide +kernel
theorem dX7_then_8 : decode cX7_then 8 = .ok (.iload_n 2, 1) := by decide +kernel
theorem dX7_then_9 : decode cX7_then 9 = .ok (.iconst 0, 1) := by decide +kernel
theorem dX7_then_10 : decode cX7_then 10 = .ok (.bipush 100, 2) := by decide +kernel
theorem dX7_then_12 : decode cX7_then 12 = .ok (.invokestatic 169, 3) := by decide +kernel
theorem dX7_then_15 : decode cX7_then 15 = .ok (.ifCond .eq 12, 3) := by decide +kernel
theorem dX7_then_18 : decode cX7_then 18 = .ok (.iload_n 3, 1) := by decide +kernel
theorem dX7_then_19 : decode cX7_then 19 = .ok (.iconst 0, 1) := by decide +kernel
theorem dX7_then_20 : decode cX7_then 20 = .ok (.iconst 2, 1) := by decide +kernel
theorem dX7_then_21 : decode cX7_then 21 = .ok (.invokestatic 169, 3) := by decide +kernel
theorem dX7_then_24 : decode cX7_then 24 = .ok (.ifCond .ne 5, 3) := by decide +kernel
theorem dX7_then_27 : decode cX7_then 27 = .ok (.iconst (-1), 1) := by decide +kernel
theorem dX7_then_28 : decode cX7_then 28 = .ok (.ireturn, 1) := by decide +kernel
theorem dX7_then_29 : decode cX7_then 29 = .ok (.aload_n 0, 1) := by decide +kernel
theorem dX7_then_30 : decode cX7_then 30 = .ok (.iload_n 2, 1) := by decide +kernel
theorem dX7_then_31 : decode cX7_then 31 = .ok (.invokevirtual 193, 3) := by decide +kernel
theorem dX7_then_34 : decode cX7_then 34 = .ok (.iload_n 3, 1) := by decide +kernel
theorem dX7_then_35 : decode cX7_then 35 = .ok (.ifCond .ne 12, 3) := by decide +kernel
theorem dX7_then_38 : decode cX7_then 38 = .ok (.aload_n 0, 1) := by decide +kernel
theorem dX7_then_39 : decode cX7_then 39 = .ok (.getfield 30, 3) := by decide +kernel
theorem dX7_then_42 : decode cX7_then 42 = .ok (.iload_n 1, 1) := by decide +kernel
theorem dX7_then_43 : decode cX7_then 43 = .ok (.invokevirtual 103, 3) := by decide +kernel
theorem dX7_then_46 : decode cX7_then 46 = .ok (.ireturn, 1) := by decide +kernel
theorem dX7_then_47 : decode cX7_then 47 = .ok (.iload_n 3, 1) := by decide +kernel
theorem dX7_then_48 : decode cX7_then 48 = .ok (.iconst 1, 1) := by decide +kernel
theorem dX7_then_49 : decode cX7_then 49 = .ok (.if_icmp .ne 14, 3) := by decide +kernel
theorem dX7_then_52 : decode cX7_then 52 = .ok (.aload_n 0, 1) := by decide +kernel
theorem dX7_then_53 : decode cX7_then 53 = .ok (.getfield 30, 3) := by decide +kernel
theorem dX7_then_56 : decode cX7_then 56 = .ok (.iload_n 1, 1) := by decide +kernel
theorem dX7_then_57 : decode cX7_then 57 = .ok (.invokevirtual 107, 3) := by decide +kernel
theorem dX7_then_60 : decode cX7_then 60 = .ok (.goto 11, 3) := by decide +kernel
theorem dX7_then_63 : decode cX7_then 63 = .ok (.aload_n 0, 1) := by decide +kernel
theorem dX7_then_64 : decode cX7_then 64 = .ok (.getfield 30, 3) := by decide +kernel
theorem dX7_then_67 : decode cX7_then 67 = .ok (.iload_n 1, 1) := by decide +kernel
theorem dX7_then_68 : decode cX7_then 68 = .ok (.invokevirtual 110, 3) := by decide +kernel
theorem dX7_then_71 : decode cX7_then 71 = .ok (.ireturn, 1) := by decide +kernel
theorem dX7_many_0 : decode cX7_many 0 = .ok (.iload_n 1, 1) := by decide +kernel
theorem dX7_many_1 : decode cX7_many 1 = .ok (.iconst 0, 1) := by decide +kernel
theorem dX7_many_2 : decode cX7_many 2 = .ok (.bipush 100, 2) := by decide +kernel
theorem dX7_many_4 : decode cX7_many 4 = .ok (.invokestatic 169, 3) := by decide +kernel
theorem dX7_many_7 : decode cX7_many 7 = .ok (.ifCond .ne 5, 3) := by decide +kernel
theorem dX7_many_10 : decode cX7_many 10 = .ok (.iconst (-1), 1) := by decide +kernel
theorem dX7_many_11 : decode cX7_many 11 = .ok (.ireturn, 1) := by decide +kernel
theorem dX7_many_12 : decode cX7_many 12 = .ok (.aload_n 0, 1) := by decide +kernel
theorem dX7_many_13 : decode cX7_many 13 = .ok (.iload_n 1, 1) := by decide +kernel
theorem dX7_many_14 : decode cX7_many 14 = .ok (.invokevirtual 193, 3) := by decide +kernel
theorem dX7_many_17 : decode cX7_many 17 = .ok (.iload_n 2, 1) := by decide +kernel
theorem dX7_many_18 : decode cX7_many 18 = .ok (.ifCond .eq 13, 3) := by decide +kernel
theorem dX7_many_21 : decode cX7_many 21 = .ok (.aload_n 0, 1) := by decide +kernel
theorem dX7_many_22 : decode cX7_many 22 = .ok (.getfield 30, 3) := by decide +kernel
theorem dX7_many_25 : decode cX7_many 25 = .ok (.getfield 113, 3) := by decide +kernel
theorem dX7_many_28 : decode cX7_many 28 = .ok (.goto 10, 3) := by decide +kernel
theorem dX7_many_31 : decode cX7_many 31 = .ok (.aload_n 0, 1) := by decide +kernel
theorem dX7_many_32 : decode cX7_many 32 = .ok (.getfield 30, 3) := by decide +kernel
theorem dX7_many_35 : decode cX7_many 35 = .ok (.getfield 196, 3) := by decide +kernel
theorem dX7_many_38 : decode cX7_many 38 = .ok (.invokestatic 199, 3) := by decide +kernel
theorem dX7_many_41 : decode cX7_many 41 = .ok (.ireturn, 1) := by decide +kernel
theorem dX7_ranked_0 : decode cX7_ranked 0 = .ok (.aload_n 0, 1) := by decide +kernel
theorem dX7_ranked_1 : decode cX7_ranked 1 = .ok (.getfield 26, 3) := by decide +kernel
theorem dX7_ranked_4 : decode cX7_ranked 4 = .ok (.iload_n 1, 1) := by decide +kernel
theorem dX7_ranked_5 : decode cX7_ranked 5 = .ok (.aload_n 0, 1) := by decide +kernel
theorem dX7_ranked_6 : decode cX7_ranked 6 = .ok (.getfield 19, 3) := by decide +kernel
theorem dX7_ranked_9 : decode cX7_ranked 9 = .ok (.getfield 133, 3) := by decide +kernel
theorem dX7_ranked_12 : decode cX7_ranked 12 = .ok (.invokevirtual 204, 3) := by decide +kernel
theorem dX7_ranked_15 : decode cX7_ranked 15 = .ok (.ireturn, 1) := by decide +kernel
theorem dX7_soonest_0 : decode cX7_soonest 0 = .ok (.aload_n 0, 1) := by decide +kernel
theorem dX7_soonest_1 : decode cX7_soonest 1 = .ok (.iload_n 1, 1) := by decide +kernel
theorem dX7_soonest_2 : decode cX7_soonest 2 = .ok (.invokevirtual 99, 3) := by decide +kernel
theorem dX7_soonest_5 : decode cX7_soonest 5 = .ok (.ifCond .ne 5, 3) := by decide +kernel
theorem dX7_soonest_8 : decode cX7_soonest 8 = .ok (.iconst (-1), 1) := by decide +kernel
theorem dX7_soonest_9 : decode cX7_soonest 9 = .ok (.ireturn, 1) := by decide +kernel
theorem dX7_soonest_10 : decode cX7_soonest 10 = .ok (.aload_n 0, 1) := by decide +kernel
theorem dX7_soonest_11 : decode cX7_soonest 11 = .ok (.iload_n 1, 1) := by decide +kernel
theorem dX7_soonest_12 : decode cX7_soonest 12 = .ok (.invokevirtual 207, 3) := by decide +kernel
theorem dX7_soonest_15 : decode cX7_soonest 15 = .ok (.ireturn, 1) := by decide +kernel
theorem dX7_route_0 : decode cX7_route 0 = .ok (.aload_n 0, 1) := by decide +kernel
theorem dX7_route_1 : decode cX7_route 1 = .ok (.iload_n 1, 1) := by decide +kernel
theorem dX7_route_2 : decode cX7_route 2 = .ok (.invokevirtual 99, 3) := by decide +kernel
theorem dX7_route_5 : decode cX7_route 5 = .ok (.ifCond .eq 7, 3) := by decide +kernel
theorem dX7_route_8 : decode cX7_route 8 = .ok (.iload_n 2, 1) := by decide +kernel
theorem dX7_route_9 : decode cX7_route 9 = .ok (.ifCond .ge 5, 3) := by decide +kernel
theorem dX7_route_12 : decode cX7_route 12 = .ok (.iconst (-1), 1) := by decide +kernel
theorem dX7_route_13 : decode cX7_route 13 = .ok (.ireturn, 1) := by decide +kernel
theorem dX7_route_14 : decode cX7_route 14 = .ok (.aload_n 0, 1) := by decide +kernel
theorem dX7_route_15 : decode cX7_route 15 = .ok (.iload_n 1, 1) := by decide +kernel
theorem dX7_route_16 : decode cX7_route 16 = .ok (.invokevirtual 207, 3) := by decide +kernel
theorem dX7_route_19 : decode cX7_route 19 = .ok (.istore_n 3, 1) := by decide +kernel
theorem dX7_route_20 : decode cX7_route 20 = .ok (.iload_n 3, 1) := by decide +kernel
theorem dX7_route_21 : decode cX7_route 21 = .ok (.ifCond .gt 6, 3) := by decide +kernel
theorem dX7_route_24 : decode cX7_route 24 = .ok (.bipush (-2), 2) := by decide +kernel
theorem dX7_route_26 : decode cX7_route 26 = .ok (.ireturn, 1) := by decide +kernel
theorem dX7_route_27 : decode cX7_route 27 = .ok (.iload_n 2, 1) := by decide +kernel
theorem dX7_route_28 : decode cX7_route 28 = .ok (.iload_n 3, 1) := by decide +kernel
theorem dX7_route_29 : decode cX7_route 29 = .ok (.if_icmp .lt 5, 3) := by decide +kernel
theorem dX7_route_32 : decode cX7_route 32 = .ok (.iconst (-1), 1) := by decide +kernel
theorem dX7_route_33 : decode cX7_route 33 = .ok (.ireturn, 1) := by decide +kernel
theorem dX7_route_34 : decode cX7_route 34 = .ok (.aload_n 0, 1) := by decide +kernel
theorem dX7_route_35 : decode cX7_route 35 = .ok (.getfield 26, 3) := by decide +kernel
theorem dX7_route_38 : decode cX7_route 38 = .ok (.getfield 157, 3) := by decide +kernel
theorem dX7_route_41 : decode cX7_route 41 = .ok (.iload_n 1, 1) := by decide +kernel
theorem dX7_route_42 : decode cX7_route 42 = .ok (.iaload, 1) := by decide +kernel
theorem dX7_route_43 : decode cX7_route 43 = .ok (.istore 4, 2) := by decide +kernel
theorem dX7_route_45 : decode cX7_route 45 = .ok (.iconst 0, 1) := by decide +kernel
theorem dX7_route_46 : decode cX7_route 46 = .ok (.istore 5, 2) := by decide +kernel
theorem dX7_route_48 : decode cX7_route 48 = .ok (.iload 5, 2) := by decide +kernel
theorem dX7_route_50 : decode cX7_route 50 = .ok (.iload_n 2, 1) := by decide +kernel
theorem dX7_route_51 : decode cX7_route 51 = .ok (.if_icmp .ge 29, 3) := by decide +kernel
theorem dX7_route_54 : decode cX7_route 54 = .ok (.aload_n 0, 1) := by decide +kernel
theorem dX7_route_55 : decode cX7_route 55 = .ok (.getfield 19, 3) := by decide +kernel
theorem dX7_route_58 : decode cX7_route 58 = .ok (.iload 4, 2) := by decide +kernel
theorem dX7_route_60 : decode cX7_route 60 = .ok (.aload_n 0, 1) := by decide +kernel
theorem dX7_route_61 : decode cX7_route 61 = .ok (.getfield 19, 3) := by decide +kernel
theorem dX7_route_64 : decode cX7_route 64 = .ok (.iload 4, 2) := by decide +kernel
theorem dX7_route_66 : decode cX7_route 66 = .ok (.invokevirtual 210, 3) := by decide +kernel
theorem dX7_route_69 : decode cX7_route 69 = .ok (.invokevirtual 213, 3) := by decide +kernel
theorem dX7_route_72 : decode cX7_route 72 = .ok (.istore 4, 2) := by decide +kernel
theorem dX7_route_74 : decode cX7_route 74 = .ok (.iinc 5 1, 3) := by decide +kernel
theorem dX7_route_77 : decode cX7_route 77 = .ok (.goto (-29), 3) := by decide +kernel
theorem dX7_route_80 : decode cX7_route 80 = .ok (.aload_n 0, 1) := by decide +kernel
theorem dX7_route_81 : decode cX7_route 81 = .ok (.getfield 19, 3) := by decide +kernel
theorem dX7_route_84 : decode cX7_route 84 = .ok (.iload 4, 2) := by decide +kernel
theorem dX7_route_86 : decode cX7_route 86 = .ok (.invokevirtual 210, 3) := by decide +kernel
theorem dX7_route_89 : decode cX7_route 89 = .ok (.ireturn, 1) := by decide +kernel
theorem dX7_stepsToMark_0 : decode cX7_stepsToMark 0 = .ok (.aload_n 0, 1) := by decide +kernel
theorem dX7_stepsToMark_1 : decode cX7_stepsToMark 1 = .ok (.getfield 26, 3) := by decide +kernel
theorem dX7_stepsToMark_4 : decode cX7_stepsToMark 4 = .ok (.iload_n 1, 1) := by decide +kernel
theorem dX7_stepsToMark_5 : decode cX7_stepsToMark 5 = .ok (.invokevirtual 154, 3) := by decide +kernel
theorem dX7_stepsToMark_8 : decode cX7_stepsToMark 8 = .ok (.ifCond .ne 25, 3) := by decide +kernel
theorem dX7_stepsToMark_11 : decode cX7_stepsToMark 11 = .ok (.aload_n 0, 1) := by decide +kernel
theorem dX7_stepsToMark_12 : decode cX7_stepsToMark 12 = .ok (.getfield 26, 3) := by decide +kernel
theorem dX7_stepsToMark_15 : decode cX7_stepsToMark 15 = .ok (.getfield 196, 3) := by decide +kernel
theorem dX7_stepsToMark_18 : decode cX7_stepsToMark 18 = .ok (.iload_n 1, 1) := by decide +kernel
theorem dX7_stepsToMark_19 : decode cX7_stepsToMark 19 = .ok (.ishr, 1) := by decide +kernel
theorem dX7_stepsToMark_20 : decode cX7_stepsToMark 20 = .ok (.iconst 1, 1) := by decide +kernel
theorem dX7_stepsToMark_21 : decode cX7_stepsToMark 21 = .ok (.iand, 1) := by decide +kernel
theorem dX7_stepsToMark_22 : decode cX7_stepsToMark 22 = .ok (.iconst 1, 1) := by decide +kernel
theorem dX7_stepsToMark_23 : decode cX7_stepsToMark 23 = .ok (.if_icmp .ne 7, 3) := by decide +kernel
theorem dX7_stepsToMark_26 : decode cX7_stepsToMark 26 = .ok (.iconst 0, 1) := by decide +kernel
theorem dX7_stepsToMark_27 : decode cX7_stepsToMark 27 = .ok (.goto 5, 3) := by decide +kernel
theorem dX7_stepsToMark_30 : decode cX7_stepsToMark 30 = .ok (.bipush (-2), 2) := by decide +kernel
theorem dX7_stepsToMark_32 : decode cX7_stepsToMark 32 = .ok (.ireturn, 1) := by decide +kernel
theorem dX7_stepsToMark_33 : decode cX7_stepsToMark 33 = .ok (.aload_n 0, 1) := by decide +kernel
theorem dX7_stepsToMark_34 : decode cX7_stepsToMark 34 = .ok (.getfield 19, 3) := by decide +kernel
theorem dX7_stepsToMark_37 : decode cX7_stepsToMark 37 = .ok (.getfield 216, 3) := by decide +kernel
theorem dX7_stepsToMark_40 : decode cX7_stepsToMark 40 = .ok (.aload_n 0, 1) := by decide +kernel
theorem dX7_stepsToMark_41 : decode cX7_stepsToMark 41 = .ok (.getfield 26, 3) := by decide +kernel
theorem dX7_stepsToMark_44 : decode cX7_stepsToMark 44 = .ok (.getfield 157, 3) := by decide +kernel
theorem dX7_stepsToMark_47 : decode cX7_stepsToMark 47 = .ok (.iload_n 1, 1) := by decide +kernel
theorem dX7_stepsToMark_48 : decode cX7_stepsToMark 48 = .ok (.iaload, 1) := by decide +kernel
theorem dX7_stepsToMark_49 : decode cX7_stepsToMark 49 = .ok (.iaload, 1) := by decide +kernel
theorem dX7_stepsToMark_50 : decode cX7_stepsToMark 50 = .ok (.istore_n 2, 1) := by decide +kernel
theorem dX7_stepsToMark_51 : decode cX7_stepsToMark 51 = .ok (.iload_n 2, 1) := by decide +kernel
theorem dX7_stepsToMark_52 : decode cX7_stepsToMark 52 = .ok (.iconst (-1), 1) := by decide +kernel
theorem dX7_stepsToMark_53 : decode cX7_stepsToMark 53 = .ok (.if_icmp .ne 8, 3) := by decide +kernel
theorem dX7_stepsToMark_56 : decode cX7_stepsToMark 56 = .ok (.bipush (-2), 2) := by decide +kernel
theorem dX7_stepsToMark_58 : decode cX7_stepsToMark 58 = .ok (.goto 4, 3) := by decide +kernel
theorem dX7_stepsToMark_61 : decode cX7_stepsToMark 61 = .ok (.iload_n 2, 1) := by decide +kernel
theorem dX7_stepsToMark_62 : decode cX7_stepsToMark 62 = .ok (.ireturn, 1) := by decide +kernel
theorem dX7_hidden_0 : decode cX7_hidden 0 = .ok (.aload_n 0, 1) := by decide +kernel
theorem dX7_hidden_1 : decode cX7_hidden 1 = .ok (.iload_n 1, 1) := by decide +kernel
theorem dX7_hidden_2 : decode cX7_hidden 2 = .ok (.invokevirtual 99, 3) := by decide +kernel
theorem dX7_hidden_5 : decode cX7_hidden 5 = .ok (.ifCond .ne 5, 3) := by decide +kernel
theorem dX7_hidden_8 : decode cX7_hidden 8 = .ok (.iconst (-1), 1) := by decide +kernel
theorem dX7_hidden_9 : decode cX7_hidden 9 = .ok (.ireturn, 1) := by decide +kernel
theorem dX7_hidden_10 : decode cX7_hidden 10 = .ok (.aload_n 0, 1) := by decide +kernel
theorem dX7_hidden_11 : decode cX7_hidden 11 = .ok (.iload_n 1, 1) := by decide +kernel
theorem dX7_hidden_12 : decode cX7_hidden 12 = .ok (.invokevirtual 207, 3) := by decide +kernel
theorem dX7_hidden_15 : decode cX7_hidden 15 = .ok (.istore_n 2, 1) := by decide +kernel
theorem dX7_hidden_16 : decode cX7_hidden 16 = .ok (.iload_n 2, 1) := by decide +kernel
theorem dX7_hidden_17 : decode cX7_hidden 17 = .ok (.ifCond .gt 5, 3) := by decide +kernel
theorem dX7_hidden_20 : decode cX7_hidden 20 = .ok (.iload_n 2, 1) := by decide +kernel
theorem dX7_hidden_21 : decode cX7_hidden 21 = .ok (.ireturn, 1) := by decide +kernel
theorem dX7_hidden_22 : decode cX7_hidden 22 = .ok (.aload_n 0, 1) := by decide +kernel
theorem dX7_hidden_23 : decode cX7_hidden 23 = .ok (.iload_n 1, 1) := by decide +kernel
theorem dX7_hidden_24 : decode cX7_hidden 24 = .ok (.invokevirtual 219, 3) := by decide +kernel
theorem dX7_hidden_27 : decode cX7_hidden 27 = .ok (.lconst 1, 1) := by decide +kernel
theorem dX7_hidden_28 : decode cX7_hidden 28 = .ok (.aload_n 0, 1) := by decide +kernel
theorem dX7_hidden_29 : decode cX7_hidden 29 = .ok (.getfield 26, 3) := by decide +kernel
theorem dX7_hidden_32 : decode cX7_hidden 32 = .ok (.getfield 157, 3) := by decide +kernel
theorem dX7_hidden_35 : decode cX7_hidden 35 = .ok (.iload_n 1, 1) := by decide +kernel
theorem dX7_hidden_36 : decode cX7_hidden 36 = .ok (.iaload, 1) := by decide +kernel
theorem dX7_hidden_37 : decode cX7_hidden 37 = .ok (.lshl, 1) := by decide +kernel
theorem dX7_hidden_38 : decode cX7_hidden 38 = .ok (.lstore_n 3, 1) := by decide +kernel
theorem dX7_hidden_39 : decode cX7_hidden 39 = .ok (.aload_n 0, 1) := by decide +kernel
theorem dX7_hidden_40 : decode cX7_hidden 40 = .ok (.getfield 19, 3) := by decide +kernel
theorem dX7_hidden_43 : decode cX7_hidden 43 = .ok (.iconst 2, 1) := by decide +kernel
theorem dX7_hidden_44 : decode cX7_hidden 44 = .ok (.invokevirtual 222, 3) := by decide +kernel
theorem dX7_hidden_47 : decode cX7_hidden 47 = .ok (.lstore 5, 2) := by decide +kernel
theorem dX7_hidden_49 : decode cX7_hidden 49 = .ok (.iconst 1, 1) := by decide +kernel
theorem dX7_hidden_50 : decode cX7_hidden 50 = .ok (.istore 7, 2) := by decide +kernel
theorem dX7_hidden_52 : decode cX7_hidden 52 = .ok (.iload 7, 2) := by decide +kernel
theorem dX7_hidden_54 : decode cX7_hidden 54 = .ok (.bipush 40, 2) := by decide +kernel
theorem dX7_hidden_56 : decode cX7_hidden 56 = .ok (.if_icmp .gt 70, 3) := by decide +kernel
theorem dX7_hidden_59 : decode cX7_hidden 59 = .ok (.aload_n 0, 1) := by decide +kernel
theorem dX7_hidden_60 : decode cX7_hidden 60 = .ok (.getfield 19, 3) := by decide +kernel
theorem dX7_hidden_63 : decode cX7_hidden 63 = .ok (.aload_n 0, 1) := by decide +kernel
theorem dX7_hidden_64 : decode cX7_hidden 64 = .ok (.getfield 30, 3) := by decide +kernel
theorem dX7_hidden_67 : decode cX7_hidden 67 = .ok (.aload_n 0, 1) := by decide +kernel
theorem dX7_hidden_68 : decode cX7_hidden 68 = .ok (.getfield 19, 3) := by decide +kernel
theorem dX7_hidden_71 : decode cX7_hidden 71 = .ok (.getfield 119, 3) := by decide +kernel
theorem dX7_hidden_74 : decode cX7_hidden 74 = .ok (.invokevirtual 226, 3) := by decide +kernel
theorem dX7_hidden_77 : decode cX7_hidden 77 = .ok (.aload_n 0, 1) := by decide +kernel
theorem dX7_hidden_78 : decode cX7_hidden 78 = .ok (.getfield 19, 3) := by decide +kernel
theorem dX7_hidden_81 : decode cX7_hidden 81 = .ok (.lload_n 3, 1) := by decide +kernel
theorem dX7_hidden_82 : decode cX7_hidden 82 = .ok (.invokevirtual 230, 3) := by decide +kernel
theorem dX7_hidden_85 : decode cX7_hidden 85 = .ok (.lstore_n 3, 1) := by decide +kernel
theorem dX7_hidden_86 : decode cX7_hidden 86 = .ok (.lload_n 3, 1) := by decide +kernel
theorem dX7_hidden_87 : decode cX7_hidden 87 = .ok (.lload 5, 2) := by decide +kernel
theorem dX7_hidden_89 : decode cX7_hidden 89 = .ok (.land, 1) := by decide +kernel
theorem dX7_hidden_90 : decode cX7_hidden 90 = .ok (.lconst 0, 1) := by decide +kernel
theorem dX7_hidden_91 : decode cX7_hidden 91 = .ok (.lcmp, 1) := by decide +kernel
theorem dX7_hidden_92 : decode cX7_hidden 92 = .ok (.ifCond .eq 6, 3) := by decide +kernel
theorem dX7_hidden_95 : decode cX7_hidden 95 = .ok (.iload 7, 2) := by decide +kernel
theorem dX7_hidden_97 : decode cX7_hidden 97 = .ok (.ireturn, 1) := by decide +kernel
theorem dX7_hidden_98 : decode cX7_hidden 98 = .ok (.aload_n 0, 1) := by decide +kernel
theorem dX7_hidden_99 : decode cX7_hidden 99 = .ok (.getfield 19, 3) := by decide +kernel
theorem dX7_hidden_102 : decode cX7_hidden 102 = .ok (.aload_n 0, 1) := by decide +kernel
theorem dX7_hidden_103 : decode cX7_hidden 103 = .ok (.getfield 30, 3) := by decide +kernel
theorem dX7_hidden_106 : decode cX7_hidden 106 = .ok (.lload_n 3, 1) := by decide +kernel
theorem dX7_hidden_107 : decode cX7_hidden 107 = .ok (.aload_n 0, 1) := by decide +kernel
theorem dX7_hidden_108 : decode cX7_hidden 108 = .ok (.getfield 19, 3) := by decide +kernel
theorem dX7_hidden_111 : decode cX7_hidden 111 = .ok (.getfield 234, 3) := by decide +kernel
theorem dX7_hidden_114 : decode cX7_hidden 114 = .ok (.iload_n 1, 1) := by decide +kernel
theorem dX7_hidden_115 : decode cX7_hidden 115 = .ok (.iaload, 1) := by decide +kernel
theorem dX7_hidden_116 : decode cX7_hidden 116 = .ok (.invokevirtual 237, 3) := by decide +kernel
theorem dX7_hidden_119 : decode cX7_hidden 119 = .ok (.lstore_n 3, 1) := by decide +kernel
theorem dX7_hidden_120 : decode cX7_hidden 120 = .ok (.iinc 7 1, 3) := by decide +kernel
theorem dX7_hidden_123 : decode cX7_hidden 123 = .ok (.goto (-71), 3) := by decide +kernel
theorem dX7_hidden_126 : decode cX7_hidden 126 = .ok (.bipush (-2), 2) := by decide +kernel
theorem dX7_hidden_128 : decode cX7_hidden 128 = .ok (.ireturn, 1) := by decide +kernel
theorem dX7_inPlace_0 : decode cX7_inPlace 0 = .ok (.aload_n 0, 1) := by decide +kernel
theorem dX7_inPlace_1 : decode cX7_inPlace 1 = .ok (.iload_n 1, 1) := by decide +kernel
theorem dX7_inPlace_2 : decode cX7_inPlace 2 = .ok (.invokevirtual 99, 3) := by decide +kernel
theorem dX7_inPlace_5 : decode cX7_inPlace 5 = .ok (.ifCond .eq 13, 3) := by decide +kernel
theorem dX7_inPlace_8 : decode cX7_inPlace 8 = .ok (.iload_n 2, 1) := by decide +kernel
theorem dX7_inPlace_9 : decode cX7_inPlace 9 = .ok (.iconst 1, 1) := by decide +kernel
theorem dX7_inPlace_10 : decode cX7_inPlace 10 = .ok (.bipush 6, 2) := by decide +kernel
theorem dX7_inPlace_12 : decode cX7_inPlace 12 = .ok (.invokestatic 169, 3) := by decide +kernel
theorem dX7_inPlace_15 : decode cX7_inPlace 15 = .ok (.ifCond .ne 5, 3) := by decide +kernel
theorem dX7_inPlace_18 : decode cX7_inPlace 18 = .ok (.iconst (-1), 1) := by decide +kernel
theorem dX7_inPlace_19 : decode cX7_inPlace 19 = .ok (.ireturn, 1) := by decide +kernel
theorem dX7_inPlace_20 : decode cX7_inPlace 20 = .ok (.aload_n 0, 1) := by decide +kernel
theorem dX7_inPlace_21 : decode cX7_inPlace 21 = .ok (.iload_n 1, 1) := by decide +kernel
theorem dX7_inPlace_22 : decode cX7_inPlace 22 = .ok (.invokevirtual 207, 3) := by decide +kernel
theorem dX7_inPlace_25 : decode cX7_inPlace 25 = .ok (.istore_n 3, 1) := by decide +kernel
theorem dX7_inPlace_26 : decode cX7_inPlace 26 = .ok (.iload_n 3, 1) := by decide +kernel
theorem dX7_inPlace_27 : decode cX7_inPlace 27 = .ok (.ifCond .gt 6, 3) := by decide +kernel
theorem dX7_inPlace_30 : decode cX7_inPlace 30 = .ok (.bipush (-2), 2) := by decide +kernel
theorem dX7_inPlace_32 : decode cX7_inPlace 32 = .ok (.ireturn, 1) := by decide +kernel
theorem dX7_inPlace_33 : decode cX7_inPlace 33 = .ok (.aload_n 0, 1) := by decide +kernel
theorem dX7_inPlace_34 : decode cX7_inPlace 34 = .ok (.iload_n 1, 1) := by decide +kernel
theorem dX7_inPlace_35 : decode cX7_inPlace 35 = .ok (.invokevirtual 219, 3) := by decide +kernel
theorem dX7_inPlace_38 : decode cX7_inPlace 38 = .ok (.iconst 1, 1) := by decide +kernel
theorem dX7_inPlace_39 : decode cX7_inPlace 39 = .ok (.iload_n 1, 1) := by decide +kernel
theorem dX7_inPlace_40 : decode cX7_inPlace 40 = .ok (.ishl, 1) := by decide +kernel
theorem dX7_inPlace_41 : decode cX7_inPlace 41 = .ok (.iconst 1, 1) := by decide +kernel
theorem dX7_inPlace_42 : decode cX7_inPlace 42 = .ok (.isub, 1) := by decide +kernel
theorem dX7_inPlace_43 : decode cX7_inPlace 43 = .ok (.istore 4, 2) := by decide +kernel
theorem dX7_inPlace_45 : decode cX7_inPlace 45 = .ok (.iconst 1, 1) := by decide +kernel
theorem dX7_inPlace_46 : decode cX7_inPlace 46 = .ok (.istore 5, 2) := by decide +kernel
theorem dX7_inPlace_48 : decode cX7_inPlace 48 = .ok (.iload 5, 2) := by decide +kernel
theorem dX7_inPlace_50 : decode cX7_inPlace 50 = .ok (.bipush 40, 2) := by decide +kernel
theorem dX7_inPlace_52 : decode cX7_inPlace 52 = .ok (.if_icmp .gt 71, 3) := by decide +kernel
theorem dX7_inPlace_55 : decode cX7_inPlace 55 = .ok (.aload_n 0, 1) := by decide +kernel
theorem dX7_inPlace_56 : decode cX7_inPlace 56 = .ok (.getfield 30, 3) := by decide +kernel
theorem dX7_inPlace_59 : decode cX7_inPlace 59 = .ok (.getfield 196, 3) := by decide +kernel
theorem dX7_inPlace_62 : decode cX7_inPlace 62 = .ok (.istore 6, 2) := by decide +kernel
theorem dX7_inPlace_64 : decode cX7_inPlace 64 = .ok (.aload_n 0, 1) := by decide +kernel
theorem dX7_inPlace_65 : decode cX7_inPlace 65 = .ok (.getfield 19, 3) := by decide +kernel
theorem dX7_inPlace_68 : decode cX7_inPlace 68 = .ok (.aload_n 0, 1) := by decide +kernel
theorem dX7_inPlace_69 : decode cX7_inPlace 69 = .ok (.getfield 30, 3) := by decide +kernel
theorem dX7_inPlace_72 : decode cX7_inPlace 72 = .ok (.aload_n 0, 1) := by decide +kernel
theorem dX7_inPlace_73 : decode cX7_inPlace 73 = .ok (.getfield 19, 3) := by decide +kernel
theorem dX7_inPlace_76 : decode cX7_inPlace 76 = .ok (.getfield 119, 3) := by decide +kernel
theorem dX7_inPlace_79 : decode cX7_inPlace 79 = .ok (.invokevirtual 226, 3) := by decide +kernel
theorem dX7_inPlace_82 : decode cX7_inPlace 82 = .ok (.iload 6, 2) := by decide +kernel
theorem dX7_inPlace_84 : decode cX7_inPlace 84 = .ok (.aload_n 0, 1) := by decide +kernel
theorem dX7_inPlace_85 : decode cX7_inPlace 85 = .ok (.getfield 30, 3) := by decide +kernel
theorem dX7_inPlace_88 : decode cX7_inPlace 88 = .ok (.getfield 196, 3) := by decide +kernel
theorem dX7_inPlace_91 : decode cX7_inPlace 91 = .ok (.iload 4, 2) := by decide +kernel
theorem dX7_inPlace_93 : decode cX7_inPlace 93 = .ok (.iand, 1) := by decide +kernel
theorem dX7_inPlace_94 : decode cX7_inPlace 94 = .ok (.ior, 1) := by decide +kernel
theorem dX7_inPlace_95 : decode cX7_inPlace 95 = .ok (.istore 7, 2) := by decide +kernel
theorem dX7_inPlace_97 : decode cX7_inPlace 97 = .ok (.iload 5, 2) := by decide +kernel
theorem dX7_inPlace_99 : decode cX7_inPlace 99 = .ok (.iload_n 3, 1) := by decide +kernel
theorem dX7_inPlace_100 : decode cX7_inPlace 100 = .ok (.if_icmp .lt 17, 3) := by decide +kernel
theorem dX7_inPlace_103 : decode cX7_inPlace 103 = .ok (.iload 7, 2) := by decide +kernel
theorem dX7_inPlace_105 : decode cX7_inPlace 105 = .ok (.invokestatic 199, 3) := by decide +kernel
theorem dX7_inPlace_108 : decode cX7_inPlace 108 = .ok (.iload_n 2, 1) := by decide +kernel
theorem dX7_inPlace_109 : decode cX7_inPlace 109 = .ok (.iconst 1, 1) := by decide +kernel
theorem dX7_inPlace_110 : decode cX7_inPlace 110 = .ok (.isub, 1) := by decide +kernel
theorem dX7_inPlace_111 : decode cX7_inPlace 111 = .ok (.if_icmp .ne 6, 3) := by decide +kernel
theorem dX7_inPlace_114 : decode cX7_inPlace 114 = .ok (.iload 5, 2) := by decide +kernel
theorem dX7_inPlace_116 : decode cX7_inPlace 116 = .ok (.ireturn, 1) := by decide +kernel
theorem dX7_inPlace_117 : decode cX7_inPlace 117 = .ok (.iinc 5 1, 3) := by decide +kernel
theorem dX7_inPlace_120 : decode cX7_inPlace 120 = .ok (.goto (-72), 3) := by decide +kernel
theorem dX7_inPlace_123 : decode cX7_inPlace 123 = .ok (.bipush (-2), 2) := by decide +kernel
theorem dX7_inPlace_125 : decode cX7_inPlace 125 = .ok (.ireturn, 1) := by decide +kernel
theorem dX7_smelt_0 : decode cX7_smelt 0 = .ok (.aload_n 0, 1) := by decide +kernel
theorem dX7_smelt_1 : decode cX7_smelt 1 = .ok (.iload_n 1, 1) := by decide +kernel
theorem dX7_smelt_2 : decode cX7_smelt 2 = .ok (.iload_n 2, 1) := by decide +kernel
theorem dX7_smelt_3 : decode cX7_smelt 3 = .ok (.invokevirtual 241, 3) := by decide +kernel
theorem dX7_smelt_6 : decode cX7_smelt 6 = .ok (.ifCond .ne 5, 3) := by decide +kernel
theorem dX7_smelt_9 : decode cX7_smelt 9 = .ok (.iconst (-1), 1) := by decide +kernel
theorem dX7_smelt_10 : decode cX7_smelt 10 = .ok (.ireturn, 1) := by decide +kernel
theorem dX7_smelt_11 : decode cX7_smelt 11 = .ok (.aload_n 0, 1) := by decide +kernel
theorem dX7_smelt_12 : decode cX7_smelt 12 = .ok (.iconst 0, 1) := by decide +kernel
theorem dX7_smelt_13 : decode cX7_smelt 13 = .ok (.invokevirtual 193, 3) := by decide +kernel
theorem dX7_smelt_16 : decode cX7_smelt 16 = .ok (.iconst 0, 1) := by decide +kernel
theorem dX7_smelt_17 : decode cX7_smelt 17 = .ok (.istore_n 3, 1) := by decide +kernel
theorem dX7_smelt_18 : decode cX7_smelt 18 = .ok (.iload_n 3, 1) := by decide +kernel
theorem dX7_smelt_19 : decode cX7_smelt 19 = .ok (.bipush 100, 2) := by decide +kernel
theorem dX7_smelt_21 : decode cX7_smelt 21 = .ok (.if_icmp .gt 56, 3) := by decide +kernel
theorem dX7_smelt_24 : decode cX7_smelt 24 = .ok (.aload_n 0, 1) := by decide +kernel
theorem dX7_smelt_25 : decode cX7_smelt 25 = .ok (.getfield 19, 3) := by decide +kernel
theorem dX7_smelt_28 : decode cX7_smelt 28 = .ok (.aload_n 0, 1) := by decide +kernel
theorem dX7_smelt_29 : decode cX7_smelt 29 = .ok (.getfield 30, 3) := by decide +kernel
theorem dX7_smelt_32 : decode cX7_smelt 32 = .ok (.iload_n 1, 1) := by decide +kernel
theorem dX7_smelt_33 : decode cX7_smelt 33 = .ok (.aload_n 0, 1) := by decide +kernel
theorem dX7_smelt_34 : decode cX7_smelt 34 = .ok (.getfield 19, 3) := by decide +kernel
theorem dX7_smelt_37 : decode cX7_smelt 37 = .ok (.getfield 119, 3) := by decide +kernel
theorem dX7_smelt_40 : decode cX7_smelt 40 = .ok (.invokevirtual 122, 3) := by decide +kernel
theorem dX7_smelt_43 : decode cX7_smelt 43 = .ok (.iload_n 2, 1) := by decide +kernel
theorem dX7_smelt_44 : decode cX7_smelt 44 = .ok (.ishr, 1) := by decide +kernel
theorem dX7_smelt_45 : decode cX7_smelt 45 = .ok (.iconst 1, 1) := by decide +kernel
theorem dX7_smelt_46 : decode cX7_smelt 46 = .ok (.iand, 1) := by decide +kernel
theorem dX7_smelt_47 : decode cX7_smelt 47 = .ok (.iconst 1, 1) := by decide +kernel
theorem dX7_smelt_48 : decode cX7_smelt 48 = .ok (.if_icmp .ne 5, 3) := by decide +kernel
theorem dX7_smelt_51 : decode cX7_smelt 51 = .ok (.iload_n 3, 1) := by decide +kernel
theorem dX7_smelt_52 : decode cX7_smelt 52 = .ok (.ireturn, 1) := by decide +kernel
theorem dX7_smelt_53 : decode cX7_smelt 53 = .ok (.aload_n 0, 1) := by decide +kernel
theorem dX7_smelt_54 : decode cX7_smelt 54 = .ok (.getfield 19, 3) := by decide +kernel
theorem dX7_smelt_57 : decode cX7_smelt 57 = .ok (.aload_n 0, 1) := by decide +kernel
theorem dX7_smelt_58 : decode cX7_smelt 58 = .ok (.getfield 30, 3) := by decide +kernel
theorem dX7_smelt_61 : decode cX7_smelt 61 = .ok (.aload_n 0, 1) := by decide +kernel
theorem dX7_smelt_62 : decode cX7_smelt 62 = .ok (.getfield 19, 3) := by decide +kernel
theorem dX7_smelt_65 : decode cX7_smelt 65 = .ok (.getfield 119, 3) := by decide +kernel
theorem dX7_smelt_68 : decode cX7_smelt 68 = .ok (.invokevirtual 226, 3) := by decide +kernel
theorem dX7_smelt_71 : decode cX7_smelt 71 = .ok (.iinc 3 1, 3) := by decide +kernel
theorem dX7_smelt_74 : decode cX7_smelt 74 = .ok (.goto (-56), 3) := by decide +kernel
theorem dX7_smelt_77 : decode cX7_smelt 77 = .ok (.bipush (-2), 2) := by decide +kernel
theorem dX7_smelt_79 : decode cX7_smelt 79 = .ok (.ireturn, 1) := by decide +kernel
theorem dX7_bare_0 : decode cX7_bare 0 = .ok (.iload_n 1, 1) := by decide +kernel
theorem dX7_bare_1 : decode cX7_bare 1 = .ok (.iconst 0, 1) := by decide +kernel
theorem dX7_bare_2 : decode cX7_bare 2 = .ok (.bipush 100, 2) := by decide +kernel
theorem dX7_bare_4 : decode cX7_bare 4 = .ok (.invokestatic 169, 3) := by decide +kernel
theorem dX7_bare_7 : decode cX7_bare 7 = .ok (.ifCond .ne 5, 3) := by decide +kernel
theorem dX7_bare_10 : decode cX7_bare 10 = .ok (.iconst (-1), 1) := by decide +kernel
theorem dX7_bare_11 : decode cX7_bare 11 = .ok (.ireturn, 1) := by decide +kernel
theorem dX7_bare_12 : decode cX7_bare 12 = .ok (.aload_n 0, 1) := by decide +kernel
theorem dX7_bare_13 : decode cX7_bare 13 = .ok (.iload_n 1, 1) := by decide +kernel
theorem dX7_bare_14 : decode cX7_bare 14 = .ok (.invokevirtual 193, 3) := by decide +kernel
theorem dX7_bare_17 : decode cX7_bare 17 = .ok (.iconst 0, 1) := by decide +kernel
theorem dX7_bare_18 : decode cX7_bare 18 = .ok (.istore_n 2, 1) := by decide +kernel
theorem dX7_bare_19 : decode cX7_bare 19 = .ok (.iconst 0, 1) := by decide +kernel
theorem dX7_bare_20 : decode cX7_bare 20 = .ok (.istore_n 3, 1) := by decide +kernel
theorem dX7_bare_21 : decode cX7_bare 21 = .ok (.iload_n 3, 1) := by decide +kernel
theorem dX7_bare_22 : decode cX7_bare 22 = .ok (.bipush 40, 2) := by decide +kernel
theorem dX7_bare_24 : decode cX7_bare 24 = .ok (.if_icmp .ge 42, 3) := by decide +kernel
theorem dX7_bare_27 : decode cX7_bare 27 = .ok (.aload_n 0, 1) := by decide +kernel
theorem dX7_bare_28 : decode cX7_bare 28 = .ok (.getfield 19, 3) := by decide +kernel
theorem dX7_bare_31 : decode cX7_bare 31 = .ok (.getfield 144, 3) := by decide +kernel
theorem dX7_bare_34 : decode cX7_bare 34 = .ok (.iload_n 3, 1) := by decide +kernel
theorem dX7_bare_35 : decode cX7_bare 35 = .ok (.iaload, 1) := by decide +kernel
theorem dX7_bare_36 : decode cX7_bare 36 = .ok (.ifCond .ne 24, 3) := by decide +kernel
theorem dX7_bare_39 : decode cX7_bare 39 = .ok (.aload_n 0, 1) := by decide +kernel
theorem dX7_bare_40 : decode cX7_bare 40 = .ok (.getfield 30, 3) := by decide +kernel
theorem dX7_bare_43 : decode cX7_bare 43 = .ok (.iload_n 3, 1) := by decide +kernel
theorem dX7_bare_44 : decode cX7_bare 44 = .ok (.aload_n 0, 1) := by decide +kernel
theorem dX7_bare_45 : decode cX7_bare 45 = .ok (.getfield 19, 3) := by decide +kernel
theorem dX7_bare_48 : decode cX7_bare 48 = .ok (.getfield 133, 3) := by decide +kernel
theorem dX7_bare_51 : decode cX7_bare 51 = .ok (.invokevirtual 148, 3) := by decide +kernel
theorem dX7_bare_54 : decode cX7_bare 54 = .ok (.ifCond .ne 6, 3) := by decide +kernel
theorem dX7_bare_57 : decode cX7_bare 57 = .ok (.iinc 2 1, 3) := by decide +kernel
theorem dX7_bare_60 : decode cX7_bare 60 = .ok (.iinc 3 1, 3) := by decide +kernel
theorem dX7_bare_63 : decode cX7_bare 63 = .ok (.goto (-42), 3) := by decide +kernel
theorem dX7_bare_66 : decode cX7_bare 66 = .ok (.iload_n 2, 1) := by decide +kernel
theorem dX7_bare_67 : decode cX7_bare 67 = .ok (.ireturn, 1) := by decide +kernel
theorem dX7_met_0 : decode cX7_met 0 = .ok (.aload_n 0, 1) := by decide +kernel
theorem dX7_met_1 : decode cX7_met 1 = .ok (.iload_n 1, 1) := by decide +kernel
theorem dX7_met_2 : decode cX7_met 2 = .ok (.iload_n 2, 1) := by decide +kernel
theorem dX7_met_3 : decode cX7_met 3 = .ok (.invokevirtual 241, 3) := by decide +kernel
theorem dX7_met_6 : decode cX7_met 6 = .ok (.ifCond .eq 13, 3) := by decide +kernel
theorem dX7_met_9 : decode cX7_met 9 = .ok (.iload_n 3, 1) := by decide +kernel
theorem dX7_met_10 : decode cX7_met 10 = .ok (.iconst 1, 1) := by decide +kernel
theorem dX7_met_11 : decode cX7_met 11 = .ok (.bipush 100, 2) := by decide +kernel
theorem dX7_met_13 : decode cX7_met 13 = .ok (.invokestatic 169, 3) := by decide +kernel
theorem dX7_met_16 : decode cX7_met 16 = .ok (.ifCond .ne 5, 3) := by decide +kernel
theorem dX7_met_19 : decode cX7_met 19 = .ok (.iconst (-1), 1) := by decide +kernel
theorem dX7_met_20 : decode cX7_met 20 = .ok (.ireturn, 1) := by decide +kernel
theorem dX7_met_21 : decode cX7_met 21 = .ok (.aload_n 0, 1) := by decide +kernel
theorem dX7_met_22 : decode cX7_met 22 = .ok (.iconst 0, 1) := by decide +kernel
theorem dX7_met_23 : decode cX7_met 23 = .ok (.invokevirtual 193, 3) := by decide +kernel
theorem dX7_met_26 : decode cX7_met 26 = .ok (.iconst 0, 1) := by decide +kernel
theorem dX7_met_27 : decode cX7_met 27 = .ok (.istore 4, 2) := by decide +kernel
theorem dX7_met_29 : decode cX7_met 29 = .ok (.iconst 1, 1) := by decide +kernel
theorem dX7_met_30 : decode cX7_met 30 = .ok (.istore 5, 2) := by decide +kernel
theorem dX7_met_32 : decode cX7_met 32 = .ok (.iload 5, 2) := by decide +kernel
theorem dX7_met_34 : decode cX7_met 34 = .ok (.iload_n 3, 1) := by decide +kernel
theorem dX7_met_35 : decode cX7_met 35 = .ok (.if_icmp .gt 42, 3) := by decide +kernel
theorem dX7_met_38 : decode cX7_met 38 = .ok (.aload_n 0, 1) := by decide +kernel
theorem dX7_met_39 : decode cX7_met 39 = .ok (.getfield 19, 3) := by decide +kernel
theorem dX7_met_42 : decode cX7_met 42 = .ok (.aload_n 0, 1) := by decide +kernel
theorem dX7_met_43 : decode cX7_met 43 = .ok (.getfield 30, 3) := by decide +kernel
theorem dX7_met_46 : decode cX7_met 46 = .ok (.aload_n 0, 1) := by decide +kernel
theorem dX7_met_47 : decode cX7_met 47 = .ok (.getfield 19, 3) := by decide +kernel
theorem dX7_met_50 : decode cX7_met 50 = .ok (.getfield 119, 3) := by decide +kernel
theorem dX7_met_53 : decode cX7_met 53 = .ok (.invokevirtual 226, 3) := by decide +kernel
theorem dX7_met_56 : decode cX7_met 56 = .ok (.aload_n 0, 1) := by decide +kernel
theorem dX7_met_57 : decode cX7_met 57 = .ok (.getfield 30, 3) := by decide +kernel
theorem dX7_met_60 : decode cX7_met 60 = .ok (.iload_n 1, 1) := by decide +kernel
theorem dX7_met_61 : decode cX7_met 61 = .ok (.iload_n 2, 1) := by decide +kernel
theorem dX7_met_62 : decode cX7_met 62 = .ok (.invokevirtual 244, 3) := by decide +kernel
theorem dX7_met_65 : decode cX7_met 65 = .ok (.ifCond .eq 6, 3) := by decide +kernel
theorem dX7_met_68 : decode cX7_met 68 = .ok (.iinc 4 1, 3) := by decide +kernel
theorem dX7_met_71 : decode cX7_met 71 = .ok (.iinc 5 1, 3) := by decide +kernel
theorem dX7_met_74 : decode cX7_met 74 = .ok (.goto (-42), 3) := by decide +kernel
theorem dX7_met_77 : decode cX7_met 77 = .ok (.iload 4, 2) := by decide +kernel
theorem dX7_met_79 : decode cX7_met 79 = .ok (.ireturn, 1) := by decide +kernel
theorem dX7_leader_0 : decode cX7_leader 0 = .ok (.iload_n 1, 1) := by decide +kernel
theorem dX7_leader_1 : decode cX7_leader 1 = .ok (.iconst 0, 1) := by decide +kernel
theorem dX7_leader_2 : decode cX7_leader 2 = .ok (.bipush 100, 2) := by decide +kernel
theorem dX7_leader_4 : decode cX7_leader 4 = .ok (.invokestatic 169, 3) := by decide +kernel
theorem dX7_leader_7 : decode cX7_leader 7 = .ok (.ifCond .ne 5, 3) := by decide +kernel
theorem dX7_leader_10 : decode cX7_leader 10 = .ok (.iconst (-1), 1) := by decide +kernel
theorem dX7_leader_11 : decode cX7_leader 11 = .ok (.ireturn, 1) := by decide +kernel
theorem dX7_leader_12 : decode cX7_leader 12 = .ok (.aload_n 0, 1) := by decide +kernel
theorem dX7_leader_13 : decode cX7_leader 13 = .ok (.getfield 19, 3) := by decide +kernel
theorem dX7_leader_16 : decode cX7_leader 16 = .ok (.getfield 133, 3) := by decide +kernel
theorem dX7_leader_19 : decode cX7_leader 19 = .ok (.ifCond .ne 6, 3) := by decide +kernel
theorem dX7_leader_22 : decode cX7_leader 22 = .ok (.bipush (-2), 2) := by decide +kernel
theorem dX7_leader_24 : decode cX7_leader 24 = .ok (.ireturn, 1) := by decide +kernel
theorem dX7_leader_25 : decode cX7_leader 25 = .ok (.aload_n 0, 1) := by decide +kernel
theorem dX7_leader_26 : decode cX7_leader 26 = .ok (.iload_n 1, 1) := by decide +kernel
theorem dX7_leader_27 : decode cX7_leader 27 = .ok (.invokevirtual 193, 3) := by decide +kernel
theorem dX7_leader_30 : decode cX7_leader 30 = .ok (.aload_n 0, 1) := by decide +kernel
theorem dX7_leader_31 : decode cX7_leader 31 = .ok (.getfield 30, 3) := by decide +kernel
theorem dX7_leader_34 : decode cX7_leader 34 = .ok (.iconst 0, 1) := by decide +kernel
theorem dX7_leader_35 : decode cX7_leader 35 = .ok (.aload_n 0, 1) := by decide +kernel
theorem dX7_leader_36 : decode cX7_leader 36 = .ok (.getfield 19, 3) := by decide +kernel
theorem dX7_leader_39 : decode cX7_leader 39 = .ok (.getfield 133, 3) := by decide +kernel
theorem dX7_leader_42 : decode cX7_leader 42 = .ok (.invokevirtual 204, 3) := by decide +kernel
theorem dX7_leader_45 : decode cX7_leader 45 = .ok (.ireturn, 1) := by decide +kernel
theorem dX7_cover_0 : decode cX7_cover 0 = .ok (.iload_n 1, 1) := by decide +kernel
theorem dX7_cover_1 : decode cX7_cover 1 = .ok (.iconst 0, 1) := by decide +kernel
theorem dX7_cover_2 : decode cX7_cover 2 = .ok (.iconst 2, 1) := by decide +kernel
theorem dX7_cover_3 : decode cX7_cover 3 = .ok (.invokestatic 169, 3) := by decide +kernel
theorem dX7_cover_6 : decode cX7_cover 6 = .ok (.ifCond .ne 5, 3) := by decide +kernel
theorem dX7_cover_9 : decode cX7_cover 9 = .ok (.iconst (-1), 1) := by decide +kernel
theorem dX7_cover_10 : decode cX7_cover 10 = .ok (.ireturn, 1) := by decide +kernel
theorem dX7_cover_11 : decode cX7_cover 11 = .ok (.aload_n 0, 1) := by decide +kernel
theorem dX7_cover_12 : decode cX7_cover 12 = .ok (.getfield 19, 3) := by decide +kernel
theorem dX7_cover_15 : decode cX7_cover 15 = .ok (.aload_n 0, 1) := by decide +kernel
theorem dX7_cover_16 : decode cX7_cover 16 = .ok (.getfield 26, 3) := by decide +kernel
theorem dX7_cover_19 : decode cX7_cover 19 = .ok (.invokevirtual 247, 3) := by decide +kernel
theorem dX7_cover_22 : decode cX7_cover 22 = .ok (.aload_n 0, 1) := by decide +kernel
theorem dX7_cover_23 : decode cX7_cover 23 = .ok (.getfield 26, 3) := by decide +kernel
theorem dX7_cover_26 : decode cX7_cover 26 = .ok (.getfield 116, 3) := by decide +kernel
theorem dX7_cover_29 : decode cX7_cover 29 = .ok (.iand, 1) := by decide +kernel
theorem dX7_cover_30 : decode cX7_cover 30 = .ok (.istore_n 2, 1) := by decide +kernel
theorem dX7_cover_31 : decode cX7_cover 31 = .ok (.iconst 0, 1) := by decide +kernel
theorem dX7_cover_32 : decode cX7_cover 32 = .ok (.istore_n 3, 1) := by decide +kernel
theorem dX7_cover_33 : decode cX7_cover 33 = .ok (.iload_n 3, 1) := by decide +kernel
theorem dX7_cover_34 : decode cX7_cover 34 = .ok (.aload_n 0, 1) := by decide +kernel
theorem dX7_cover_35 : decode cX7_cover 35 = .ok (.getfield 19, 3) := by decide +kernel
theorem dX7_cover_38 : decode cX7_cover 38 = .ok (.getfield 133, 3) := by decide +kernel
theorem dX7_cover_41 : decode cX7_cover 41 = .ok (.if_icmp .ge 27, 3) := by decide +kernel
theorem dX7_cover_44 : decode cX7_cover 44 = .ok (.aload_n 0, 1) := by decide +kernel
theorem dX7_cover_45 : decode cX7_cover 45 = .ok (.getfield 62, 3) := by decide +kernel
theorem dX7_cover_48 : decode cX7_cover 48 = .ok (.iload_n 3, 1) := by decide +kernel
theorem dX7_cover_49 : decode cX7_cover 49 = .ok (.aload_n 0, 1) := by decide +kernel
theorem dX7_cover_50 : decode cX7_cover 50 = .ok (.getfield 19, 3) := by decide +kernel
theorem dX7_cover_53 : decode cX7_cover 53 = .ok (.aload_n 0, 1) := by decide +kernel
theorem dX7_cover_54 : decode cX7_cover 54 = .ok (.getfield 26, 3) := by decide +kernel
theorem dX7_cover_57 : decode cX7_cover 57 = .ok (.iload_n 3, 1) := by decide +kernel
theorem dX7_cover_58 : decode cX7_cover 58 = .ok (.invokevirtual 251, 3) := by decide +kernel
theorem dX7_cover_61 : decode cX7_cover 61 = .ok (.lastore, 1) := by decide +kernel
theorem dX7_cover_62 : decode cX7_cover 62 = .ok (.iinc 3 1, 3) := by decide +kernel
theorem dX7_cover_65 : decode cX7_cover 65 = .ok (.goto (-32), 3) := by decide +kernel
theorem dX7_cover_68 : decode cX7_cover 68 = .ok (.aload_n 0, 1) := by decide +kernel
theorem dX7_cover_69 : decode cX7_cover 69 = .ok (.iload_n 2, 1) := by decide +kernel
theorem dX7_cover_70 : decode cX7_cover 70 = .ok (.invokevirtual 255, 3) := by decide +kernel
theorem dX7_cover_73 : decode cX7_cover 73 = .ok (.lstore_n 3, 1) := by decide +kernel
theorem dX7_cover_74 : decode cX7_cover 74 = .ok (.iload_n 1, 1) := by decide +kernel
theorem dX7_cover_75 : decode cX7_cover 75 = .ok (.iconst 2, 1) := by decide +kernel
theorem dX7_cover_76 : decode cX7_cover 76 = .ok (.if_icmp .ne 8, 3) := by decide +kernel
theorem dX7_cover_79 : decode cX7_cover 79 = .ok (.lload_n 3, 1) := by decide +kernel
theorem dX7_cover_80 : decode cX7_cover 80 = .ok (.invokestatic 258, 3) := by decide +kernel
theorem dX7_cover_83 : decode cX7_cover 83 = .ok (.ireturn, 1) := by decide +kernel
theorem dX7_cover_84 : decode cX7_cover 84 = .ok (.iload_n 2, 1) := by decide +kernel
theorem dX7_cover_85 : decode cX7_cover 85 = .ok (.istore 5, 2) := by decide +kernel
theorem dX7_cover_87 : decode cX7_cover 87 = .ok (.iconst 0, 1) := by decide +kernel
theorem dX7_cover_88 : decode cX7_cover 88 = .ok (.istore 6, 2) := by decide +kernel
theorem dX7_cover_90 : decode cX7_cover 90 = .ok (.iload 6, 2) := by decide +kernel
theorem dX7_cover_92 : decode cX7_cover 92 = .ok (.iload_n 2, 1) := by decide +kernel
theorem dX7_cover_93 : decode cX7_cover 93 = .ok (.if_icmp .ge 58, 3) := by decide +kernel
theorem dX7_cover_96 : decode cX7_cover 96 = .ok (.iload 6, 2) := by decide +kernel
theorem dX7_cover_98 : decode cX7_cover 98 = .ok (.invokestatic 199, 3) := by decide +kernel
theorem dX7_cover_101 : decode cX7_cover 101 = .ok (.iload 5, 2) := by decide +kernel
theorem dX7_cover_103 : decode cX7_cover 103 = .ok (.invokestatic 199, 3) := by decide +kernel
theorem dX7_cover_106 : decode cX7_cover 106 = .ok (.if_icmp .ge 7, 3) := by decide +kernel
theorem dX7_cover_109 : decode cX7_cover 109 = .ok (.iconst 1, 1) := by decide +kernel
theorem dX7_cover_110 : decode cX7_cover 110 = .ok (.goto 4, 3) := by decide +kernel
theorem dX7_cover_113 : decode cX7_cover 113 = .ok (.iconst 0, 1) := by decide +kernel
theorem dX7_cover_114 : decode cX7_cover 114 = .ok (.istore 7, 2) := by decide +kernel
theorem dX7_cover_116 : decode cX7_cover 116 = .ok (.iload 6, 2) := by decide +kernel
theorem dX7_cover_118 : decode cX7_cover 118 = .ok (.iload_n 2, 1) := by decide +kernel
theorem dX7_cover_119 : decode cX7_cover 119 = .ok (.iconst (-1), 1) := by decide +kernel
theorem dX7_cover_120 : decode cX7_cover 120 = .ok (.ixor, 1) := by decide +kernel
theorem dX7_cover_121 : decode cX7_cover 121 = .ok (.iand, 1) := by decide +kernel
theorem dX7_cover_122 : decode cX7_cover 122 = .ok (.ifCond .ne 23, 3) := by decide +kernel
theorem dX7_cover_125 : decode cX7_cover 125 = .ok (.iload 7, 2) := by decide +kernel
theorem dX7_cover_127 : decode cX7_cover 127 = .ok (.ifCond .eq 18, 3) := by decide +kernel
theorem dX7_cover_130 : decode cX7_cover 130 = .ok (.aload_n 0, 1) := by decide +kernel
theorem dX7_cover_131 : decode cX7_cover 131 = .ok (.iload 6, 2) := by decide +kernel
theorem dX7_cover_133 : decode cX7_cover 133 = .ok (.invokevirtual 255, 3) := by decide +kernel
theorem dX7_cover_136 : decode cX7_cover 136 = .ok (.lload_n 3, 1) := by decide +kernel
theorem dX7_cover_137 : decode cX7_cover 137 = .ok (.lcmp, 1) := by decide +kernel
theorem dX7_cover_138 : decode cX7_cover 138 = .ok (.ifCond .ne 7, 3) := by decide +kernel
theorem dX7_cover_141 : decode cX7_cover 141 = .ok (.iload 6, 2) := by decide +kernel
theorem dX7_cover_143 : decode cX7_cover 143 = .ok (.istore 5, 2) := by decide +kernel
theorem dX7_cover_145 : decode cX7_cover 145 = .ok (.iinc 6 1, 3) := by decide +kernel
theorem dX7_cover_148 : decode cX7_cover 148 = .ok (.goto (-58), 3) := by decide +kernel
theorem dX7_cover_151 : decode cX7_cover 151 = .ok (.iload_n 1, 1) := by decide +kernel
theorem dX7_cover_152 : decode cX7_cover 152 = .ok (.ifCond .ne 11, 3) := by decide +kernel
theorem dX7_cover_155 : decode cX7_cover 155 = .ok (.iload 5, 2) := by decide +kernel
theorem dX7_cover_157 : decode cX7_cover 157 = .ok (.invokestatic 199, 3) := by decide +kernel
theorem dX7_cover_160 : decode cX7_cover 160 = .ok (.goto 5, 3) := by decide +kernel
theorem dX7_cover_163 : decode cX7_cover 163 = .ok (.iload 5, 2) := by decide +kernel
theorem dX7_cover_165 : decode cX7_cover 165 = .ok (.ireturn, 1) := by decide +kernel
theorem dX7_coveredBy_0 : decode cX7_coveredBy 0 = .ok (.lconst 0, 1) := by decide +kernel
theorem dX7_coveredBy_1 : decode cX7_coveredBy 1 = .ok (.lstore_n 2, 1) := by decide +kernel
theorem dX7_coveredBy_2 : decode cX7_coveredBy 2 = .ok (.iconst 0, 1) := by decide +kernel
theorem dX7_coveredBy_3 : decode cX7_coveredBy 3 = .ok (.istore 4, 2) := by decide +kernel
theorem dX7_coveredBy_5 : decode cX7_coveredBy 5 = .ok (.iload 4, 2) := by decide +kernel
theorem dX7_coveredBy_7 : decode cX7_coveredBy 7 = .ok (.aload_n 0, 1) := by decide +kernel
theorem dX7_coveredBy_8 : decode cX7_coveredBy 8 = .ok (.getfield 19, 3) := by decide +kernel
theorem dX7_coveredBy_11 : decode cX7_coveredBy 11 = .ok (.getfield 133, 3) := by decide +kernel
theorem dX7_coveredBy_14 : decode cX7_coveredBy 14 = .ok (.if_icmp .ge 29, 3) := by decide +kernel
theorem dX7_coveredBy_17 : decode cX7_coveredBy 17 = .ok (.iload_n 1, 1) := by decide +kernel
theorem dX7_coveredBy_18 : decode cX7_coveredBy 18 = .ok (.iload 4, 2) := by decide +kernel
theorem dX7_coveredBy_20 : decode cX7_coveredBy 20 = .ok (.ishr, 1) := by decide +kernel
theorem dX7_coveredBy_21 : decode cX7_coveredBy 21 = .ok (.iconst 1, 1) := by decide +kernel
theorem dX7_coveredBy_22 : decode cX7_coveredBy 22 = .ok (.iand, 1) := by decide +kernel
theorem dX7_coveredBy_23 : decode cX7_coveredBy 23 = .ok (.iconst 1, 1) := by decide +kernel
theorem dX7_coveredBy_24 : decode cX7_coveredBy 24 = .ok (.if_icmp .ne 13, 3) := by decide +kernel
theorem dX7_coveredBy_27 : decode cX7_coveredBy 27 = .ok (.lload_n 2, 1) := by decide +kernel
theorem dX7_coveredBy_28 : decode cX7_coveredBy 28 = .ok (.aload_n 0, 1) := by decide +kernel
theorem dX7_coveredBy_29 : decode cX7_coveredBy 29 = .ok (.getfield 62, 3) := by decide +kernel
theorem dX7_coveredBy_32 : decode cX7_coveredBy 32 = .ok (.iload 4, 2) := by decide +kernel
theorem dX7_coveredBy_34 : decode cX7_coveredBy 34 = .ok (.laload, 1) := by decide +kernel
theorem dX7_coveredBy_35 : decode cX7_coveredBy 35 = .ok (.lor, 1) := by decide +kernel
theorem dX7_coveredBy_36 : decode cX7_coveredBy 36 = .ok (.lstore_n 2, 1) := by decide +kernel
theorem dX7_coveredBy_37 : decode cX7_coveredBy 37 = .ok (.iinc 4 1, 3) := by decide +kernel
theorem dX7_coveredBy_40 : decode cX7_coveredBy 40 = .ok (.goto (-35), 3) := by decide +kernel
theorem dX7_coveredBy_43 : decode cX7_coveredBy 43 = .ok (.lload_n 2, 1) := by decide +kernel
theorem dX7_coveredBy_44 : decode cX7_coveredBy 44 = .ok (.lreturn, 1) := by decide +kernel
theorem dX7_out_0 : decode cX7_out 0 = .ok (.iload_n 1, 1) := by decide +kernel
theorem dX7_out_1 : decode cX7_out 1 = .ok (.iconst 1, 1) := by decide +kernel
theorem dX7_out_2 : decode cX7_out 2 = .ok (.bipush 24, 2) := by decide +kernel
theorem dX7_out_4 : decode cX7_out 4 = .ok (.invokestatic 169, 3) := by decide +kernel
theorem dX7_out_7 : decode cX7_out 7 = .ok (.ifCond .eq 8, 3) := by decide +kernel
theorem dX7_out_10 : decode cX7_out 10 = .ok (.iload_n 2, 1) := by decide +kernel
theorem dX7_out_11 : decode cX7_out 11 = .ok (.iconst (-1), 1) := by decide +kernel
theorem dX7_out_12 : decode cX7_out 12 = .ok (.if_icmp .ge 5, 3) := by decide +kernel
theorem dX7_out_15 : decode cX7_out 15 = .ok (.iconst (-1), 1) := by decide +kernel
theorem dX7_out_16 : decode cX7_out 16 = .ok (.ireturn, 1) := by decide +kernel
theorem dX7_out_17 : decode cX7_out 17 = .ok (.aload_n 0, 1) := by decide +kernel
theorem dX7_out_18 : decode cX7_out 18 = .ok (.getfield 58, 3) := by decide +kernel
theorem dX7_out_21 : decode cX7_out 21 = .ok (.aload_n 0, 1) := by decide +kernel
theorem dX7_out_22 : decode cX7_out 22 = .ok (.getfield 19, 3) := by decide +kernel
theorem dX7_out_25 : decode cX7_out 25 = .ok (.aload_n 0, 1) := by decide +kernel
theorem dX7_out_26 : decode cX7_out 26 = .ok (.getfield 26, 3) := by decide +kernel
theorem dX7_out_29 : decode cX7_out 29 = .ok (.iload_n 1, 1) := by decide +kernel
theorem dX7_out_30 : decode cX7_out 30 = .ok (.iload_n 2, 1) := by decide +kernel
theorem dX7_out_31 : decode cX7_out 31 = .ok (.invokevirtual 263, 3) := by decide +kernel
theorem dX7_out_34 : decode cX7_out 34 = .ok (.ireturn, 1) := by decide +kernel
theorem dX7_odds_0 : decode cX7_odds 0 = .ok (.aload_n 0, 1) := by decide +kernel
theorem dX7_odds_1 : decode cX7_odds 1 = .ok (.iload_n 1, 1) := by decide +kernel
theorem dX7_odds_2 : decode cX7_odds 2 = .ok (.invokevirtual 99, 3) := by decide +kernel
theorem dX7_odds_5 : decode cX7_odds 5 = .ok (.ifCond .eq 23, 3) := by decide +kernel
theorem dX7_odds_8 : decode cX7_odds 8 = .ok (.iload_n 2, 1) := by decide +kernel
theorem dX7_odds_9 : decode cX7_odds 9 = .ok (.iconst 0, 1) := by decide +kernel
theorem dX7_odds_10 : decode cX7_odds 10 = .ok (.bipush 100, 2) := by decide +kernel
theorem dX7_odds_12 : decode cX7_odds 12 = .ok (.invokestatic 169, 3) := by decide +kernel
theorem dX7_odds_15 : decode cX7_odds 15 = .ok (.ifCond .eq 13, 3) := by decide +kernel
theorem dX7_odds_18 : decode cX7_odds 18 = .ok (.iload_n 3, 1) := by decide +kernel
theorem dX7_odds_19 : decode cX7_odds 19 = .ok (.iconst 1, 1) := by decide +kernel
theorem dX7_odds_20 : decode cX7_odds 20 = .ok (.bipush 20, 2) := by decide +kernel
theorem dX7_odds_22 : decode cX7_odds 22 = .ok (.invokestatic 169, 3) := by decide +kernel
theorem dX7_odds_25 : decode cX7_odds 25 = .ok (.ifCond .ne 5, 3) := by decide +kernel
theorem dX7_odds_28 : decode cX7_odds 28 = .ok (.iconst (-1), 1) := by decide +kernel
theorem dX7_odds_29 : decode cX7_odds 29 = .ok (.ireturn, 1) := by decide +kernel
theorem dX7_odds_30 : decode cX7_odds 30 = .ok (.iconst 0, 1) := by decide +kernel
theorem dX7_odds_31 : decode cX7_odds 31 = .ok (.istore 4, 2) := by decide +kernel
theorem dX7_odds_33 : decode cX7_odds 33 = .ok (.iconst 0, 1) := by decide +kernel
theorem dX7_odds_34 : decode cX7_odds 34 = .ok (.istore 5, 2) := by decide +kernel
theorem dX7_odds_36 : decode cX7_odds 36 = .ok (.iload 5, 2) := by decide +kernel
theorem dX7_odds_38 : decode cX7_odds 38 = .ok (.iload_n 3, 1) := by decide +kernel
theorem dX7_odds_39 : decode cX7_odds 39 = .ok (.if_icmp .ge 58, 3) := by decide +kernel
theorem dX7_odds_42 : decode cX7_odds 42 = .ok (.aload_n 0, 1) := by decide +kernel
theorem dX7_odds_43 : decode cX7_odds 43 = .ok (.getfield 30, 3) := by decide +kernel
theorem dX7_odds_46 : decode cX7_odds 46 = .ok (.aload_n 0, 1) := by decide +kernel
theorem dX7_odds_47 : decode cX7_odds 47 = .ok (.getfield 26, 3) := by decide +kernel
theorem dX7_odds_50 : decode cX7_odds 50 = .ok (.invokevirtual 267, 3) := by decide +kernel
theorem dX7_odds_53 : decode cX7_odds 53 = .ok (.aload_n 0, 1) := by decide +kernel
theorem dX7_odds_54 : decode cX7_odds 54 = .ok (.getfield 19, 3) := by decide +kernel
theorem dX7_odds_57 : decode cX7_odds 57 = .ok (.aload_n 0, 1) := by decide +kernel
theorem dX7_odds_58 : decode cX7_odds 58 = .ok (.getfield 30, 3) := by decide +kernel
theorem dX7_odds_61 : decode cX7_odds 61 = .ok (.iload_n 2, 1) := by decide +kernel
theorem dX7_odds_62 : decode cX7_odds 62 = .ok (.aload_n 0, 1) := by decide +kernel
theorem dX7_odds_63 : decode cX7_odds 63 = .ok (.getfield 19, 3) := by decide +kernel
theorem dX7_odds_66 : decode cX7_odds 66 = .ok (.getfield 119, 3) := by decide +kernel
theorem dX7_odds_69 : decode cX7_odds 69 = .ok (.iload 5, 2) := by decide +kernel
theorem dX7_odds_71 : decode cX7_odds 71 = .ok (.iadd, 1) := by decide +kernel
theorem dX7_odds_72 : decode cX7_odds 72 = .ok (.invokevirtual 182, 3) := by decide +kernel
theorem dX7_odds_75 : decode cX7_odds 75 = .ok (.iload 4, 2) := by decide +kernel
theorem dX7_odds_77 : decode cX7_odds 77 = .ok (.aload_n 0, 1) := by decide +kernel
theorem dX7_odds_78 : decode cX7_odds 78 = .ok (.getfield 30, 3) := by decide +kernel
theorem dX7_odds_81 : decode cX7_odds 81 = .ok (.getfield 196, 3) := by decide +kernel
theorem dX7_odds_84 : decode cX7_odds 84 = .ok (.iload_n 1, 1) := by decide +kernel
theorem dX7_odds_85 : decode cX7_odds 85 = .ok (.ishr, 1) := by decide +kernel
theorem dX7_odds_86 : decode cX7_odds 86 = .ok (.iconst 1, 1) := by decide +kernel
theorem dX7_odds_87 : decode cX7_odds 87 = .ok (.iand, 1) := by decide +kernel
theorem dX7_odds_88 : decode cX7_odds 88 = .ok (.iadd, 1) := by decide +kernel
theorem dX7_odds_89 : decode cX7_odds 89 = .ok (.istore 4, 2) := by decide +kernel
theorem dX7_odds_91 : decode cX7_odds 91 = .ok (.iinc 5 1, 3) := by decide +kernel
theorem dX7_odds_94 : decode cX7_odds 94 = .ok (.goto (-58), 3) := by decide +kernel
theorem dX7_odds_97 : decode cX7_odds 97 = .ok (.iload 4, 2) := by decide +kernel
theorem dX7_odds_99 : decode cX7_odds 99 = .ok (.ireturn, 1) := by decide +kernel
theorem dX7_lost_0 : decode cX7_lost 0 = .ok (.iload_n 1, 1) := by decide +kernel
theorem dX7_lost_1 : decode cX7_lost 1 = .ok (.iconst 0, 1) := by decide +kernel
theorem dX7_lost_2 : decode cX7_lost 2 = .ok (.iconst 1, 1) := by decide +kernel
theorem dX7_lost_3 : decode cX7_lost 3 = .ok (.invokestatic 169, 3) := by decide +kernel
theorem dX7_lost_6 : decode cX7_lost 6 = .ok (.ifCond .ne 5, 3) := by decide +kernel
theorem dX7_lost_9 : decode cX7_lost 9 = .ok (.iconst (-1), 1) := by decide +kernel
theorem dX7_lost_10 : decode cX7_lost 10 = .ok (.ireturn, 1) := by decide +kernel
theorem dX7_lost_11 : decode cX7_lost 11 = .ok (.aload_n 0, 1) := by decide +kernel
theorem dX7_lost_12 : decode cX7_lost 12 = .ok (.iconst 0, 1) := by decide +kernel
theorem dX7_lost_13 : decode cX7_lost 13 = .ok (.invokevirtual 193, 3) := by decide +kernel
theorem dX7_lost_16 : decode cX7_lost 16 = .ok (.iconst 1, 1) := by decide +kernel
theorem dX7_lost_17 : decode cX7_lost 17 = .ok (.istore_n 2, 1) := by decide +kernel
theorem dX7_lost_18 : decode cX7_lost 18 = .ok (.iload_n 2, 1) := by decide +kernel
theorem dX7_lost_19 : decode cX7_lost 19 = .ok (.bipush 100, 2) := by decide +kernel
theorem dX7_lost_21 : decode cX7_lost 21 = .ok (.if_icmp .gt 63, 3) := by decide +kernel
theorem dX7_lost_24 : decode cX7_lost 24 = .ok (.aload_n 0, 1) := by decide +kernel
theorem dX7_lost_25 : decode cX7_lost 25 = .ok (.getfield 19, 3) := by decide +kernel
theorem dX7_lost_28 : decode cX7_lost 28 = .ok (.aload_n 0, 1) := by decide +kernel
theorem dX7_lost_29 : decode cX7_lost 29 = .ok (.getfield 30, 3) := by decide +kernel
theorem dX7_lost_32 : decode cX7_lost 32 = .ok (.aload_n 0, 1) := by decide +kernel
theorem dX7_lost_33 : decode cX7_lost 33 = .ok (.getfield 19, 3) := by decide +kernel
theorem dX7_lost_36 : decode cX7_lost 36 = .ok (.getfield 119, 3) := by decide +kernel
theorem dX7_lost_39 : decode cX7_lost 39 = .ok (.invokevirtual 226, 3) := by decide +kernel
theorem dX7_lost_42 : decode cX7_lost 42 = .ok (.aload_n 0, 1) := by decide +kernel
theorem dX7_lost_43 : decode cX7_lost 43 = .ok (.getfield 30, 3) := by decide +kernel
theorem dX7_lost_46 : decode cX7_lost 46 = .ok (.getfield 113, 3) := by decide +kernel
theorem dX7_lost_49 : decode cX7_lost 49 = .ok (.aload_n 0, 1) := by decide +kernel
theorem dX7_lost_50 : decode cX7_lost 50 = .ok (.getfield 26, 3) := by decide +kernel
theorem dX7_lost_53 : decode cX7_lost 53 = .ok (.getfield 113, 3) := by decide +kernel
theorem dX7_lost_56 : decode cX7_lost 56 = .ok (.iconst (-1), 1) := by decide +kernel
theorem dX7_lost_57 : decode cX7_lost 57 = .ok (.ixor, 1) := by decide +kernel
theorem dX7_lost_58 : decode cX7_lost 58 = .ok (.iand, 1) := by decide +kernel
theorem dX7_lost_59 : decode cX7_lost 59 = .ok (.istore_n 3, 1) := by decide +kernel
theorem dX7_lost_60 : decode cX7_lost 60 = .ok (.iload_n 3, 1) := by decide +kernel
theorem dX7_lost_61 : decode cX7_lost 61 = .ok (.ifCond .eq 17, 3) := by decide +kernel
theorem dX7_lost_64 : decode cX7_lost 64 = .ok (.iload_n 1, 1) := by decide +kernel
theorem dX7_lost_65 : decode cX7_lost 65 = .ok (.iconst 1, 1) := by decide +kernel
theorem dX7_lost_66 : decode cX7_lost 66 = .ok (.if_icmp .ne 7, 3) := by decide +kernel
theorem dX7_lost_69 : decode cX7_lost 69 = .ok (.iload_n 2, 1) := by decide +kernel
theorem dX7_lost_70 : decode cX7_lost 70 = .ok (.goto 7, 3) := by decide +kernel
theorem dX7_lost_73 : decode cX7_lost 73 = .ok (.iload_n 3, 1) := by decide +kernel
theorem dX7_lost_74 : decode cX7_lost 74 = .ok (.invokestatic 270, 3) := by decide +kernel
theorem dX7_lost_77 : decode cX7_lost 77 = .ok (.ireturn, 1) := by decide +kernel
theorem dX7_lost_78 : decode cX7_lost 78 = .ok (.iinc 2 1, 3) := by decide +kernel
theorem dX7_lost_81 : decode cX7_lost 81 = .ok (.goto (-63), 3) := by decide +kernel
theorem dX7_lost_84 : decode cX7_lost 84 = .ok (.bipush (-2), 2) := by decide +kernel
theorem dX7_lost_86 : decode cX7_lost 86 = .ok (.ireturn, 1) := by decide +kernel
theorem dX7_lookAhead_0 : decode cX7_lookAhead 0 = .ok (.aload_n 0, 1) := by decide +kernel
theorem dX7_lookAhead_1 : decode cX7_lookAhead 1 = .ok (.getfield 30, 3) := by decide +kernel
theorem dX7_lookAhead_4 : decode cX7_lookAhead 4 = .ok (.aload_n 0, 1) := by decide +kernel
theorem dX7_lookAhead_5 : decode cX7_lookAhead 5 = .ok (.getfield 26, 3) := by decide +kernel
theorem dX7_lookAhead_8 : decode cX7_lookAhead 8 = .ok (.invokevirtual 267, 3) := by decide +kernel
theorem dX7_lookAhead_11 : decode cX7_lookAhead 11 = .ok (.aload_n 0, 1) := by decide +kernel
theorem dX7_lookAhead_12 : decode cX7_lookAhead 12 = .ok (.getfield 19, 3) := by decide +kernel
theorem dX7_lookAhead_15 : decode cX7_lookAhead 15 = .ok (.aload_n 0, 1) := by decide +kernel
theorem dX7_lookAhead_16 : decode cX7_lookAhead 16 = .ok (.getfield 30, 3) := by decide +kernel
theorem dX7_lookAhead_19 : decode cX7_lookAhead 19 = .ok (.iload_n 1, 1) := by decide +kernel
theorem dX7_lookAhead_20 : decode cX7_lookAhead 20 = .ok (.aload_n 0, 1) := by decide +kernel
theorem dX7_lookAhead_21 : decode cX7_lookAhead 21 = .ok (.getfield 19, 3) := by decide +kernel
theorem dX7_lookAhead_24 : decode cX7_lookAhead 24 = .ok (.getfield 119, 3) := by decide +kernel
theorem dX7_lookAhead_27 : decode cX7_lookAhead 27 = .ok (.invokevirtual 182, 3) := by decide +kernel
theorem dX7_lookAhead_30 : decode cX7_lookAhead 30 = .ok (.return_, 1) := by decide +kernel
theorem dX7_lookWithout_0 : decode cX7_lookWithout 0 = .ok (.aload_n 0, 1) := by decide +kernel
theorem dX7_lookWithout_1 : decode cX7_lookWithout 1 = .ok (.getfield 30, 3) := by decide +kernel
theorem dX7_lookWithout_4 : decode cX7_lookWithout 4 = .ok (.aload_n 0, 1) := by decide +kernel
theorem dX7_lookWithout_5 : decode cX7_lookWithout 5 = .ok (.getfield 26, 3) := by decide +kernel
theorem dX7_lookWithout_8 : decode cX7_lookWithout 8 = .ok (.invokevirtual 267, 3) := by decide +kernel
theorem dX7_lookWithout_11 : decode cX7_lookWithout 11 = .ok (.aload_n 0, 1) := by decide +kernel
theorem dX7_lookWithout_12 : decode cX7_lookWithout 12 = .ok (.getfield 30, 3) := by decide +kernel
theorem dX7_lookWithout_15 : decode cX7_lookWithout 15 = .ok (.dup, 1) := by decide +kernel
theorem dX7_lookWithout_16 : decode cX7_lookWithout 16 = .ok (.getfield 113, 3) := by decide +kernel
theorem dX7_lookWithout_19 : decode cX7_lookWithout 19 = .ok (.iconst 1, 1) := by decide +kernel
theorem dX7_lookWithout_20 : decode cX7_lookWithout 20 = .ok (.iload_n 1, 1) := by decide +kernel
theorem dX7_lookWithout_21 : decode cX7_lookWithout 21 = .ok (.ishl, 1) := by decide +kernel
theorem dX7_lookWithout_22 : decode cX7_lookWithout 22 = .ok (.ior, 1) := by decide +kernel
theorem dX7_lookWithout_23 : decode cX7_lookWithout 23 = .ok (.putfield 113, 3) := by decide +kernel
theorem dX7_lookWithout_26 : decode cX7_lookWithout 26 = .ok (.return_, 1) := by decide +kernel
theorem dX7_tell_0 : decode cX7_tell 0 = .ok (.aload_n 0, 1) := by decide +kernel
theorem dX7_tell_1 : decode cX7_tell 1 = .ok (.getfield 51, 3) := by decide +kernel
theorem dX7_tell_4 : decode cX7_tell 4 = .ok (.getfield 93, 3) := by decide +kernel
theorem dX7_tell_7 : decode cX7_tell 7 = .ok (.bipush 20, 2) := by decide +kernel
theorem dX7_tell_9 : decode cX7_tell 9 = .ok (.if_icmp .ge 19, 3) := by decide +kernel
theorem dX7_tell_12 : decode cX7_tell 12 = .ok (.aload_n 0, 1) := by decide +kernel
theorem dX7_tell_13 : decode cX7_tell 13 = .ok (.iload_n 1, 1) := by decide +kernel
theorem dX7_tell_14 : decode cX7_tell 14 = .ok (.invokevirtual 99, 3) := by decide +kernel
theorem dX7_tell_17 : decode cX7_tell 17 = .ok (.ifCond .eq 11, 3) := by decide +kernel
theorem dX7_tell_20 : decode cX7_tell 20 = .ok (.aload_n 0, 1) := by decide +kernel
theorem dX7_tell_21 : decode cX7_tell 21 = .ok (.iload_n 2, 1) := by decide +kernel
theorem dX7_tell_22 : decode cX7_tell 22 = .ok (.invokevirtual 99, 3) := by decide +kernel
theorem dX7_tell_25 : decode cX7_tell 25 = .ok (.ifCond .ne 5, 3) := by decide +kernel
theorem dX7_tell_28 : decode cX7_tell 28 = .ok (.iconst (-1), 1) := by decide +kernel
theorem dX7_tell_29 : decode cX7_tell 29 = .ok (.ireturn, 1) := by decide +kernel
theorem dX7_tell_30 : decode cX7_tell 30 = .ok (.aload_n 0, 1) := by decide +kernel
theorem dX7_tell_31 : decode cX7_tell 31 = .ok (.getfield 51, 3) := by decide +kernel
theorem dX7_tell_34 : decode cX7_tell 34 = .ok (.iload_n 2, 1) := by decide +kernel
theorem dX7_tell_35 : decode cX7_tell 35 = .ok (.aload_n 0, 1) := by decide +kernel
theorem dX7_tell_36 : decode cX7_tell 36 = .ok (.getfield 19, 3) := by decide +kernel
theorem dX7_tell_39 : decode cX7_tell 39 = .ok (.aload_n 0, 1) := by decide +kernel
theorem dX7_tell_40 : decode cX7_tell 40 = .ok (.getfield 26, 3) := by decide +kernel
theorem dX7_tell_43 : decode cX7_tell 43 = .ok (.iload_n 1, 1) := by decide +kernel
theorem dX7_tell_44 : decode cX7_tell 44 = .ok (.aload_n 0, 1) := by decide +kernel
theorem dX7_tell_45 : decode cX7_tell 45 = .ok (.getfield 19, 3) := by decide +kernel
theorem dX7_tell_48 : decode cX7_tell 48 = .ok (.getfield 119, 3) := by decide +kernel
theorem dX7_tell_51 : decode cX7_tell 51 = .ok (.invokevirtual 122, 3) := by decide +kernel
theorem dX7_tell_54 : decode cX7_tell 54 = .ok (.invokevirtual 273, 3) := by decide +kernel
theorem dX7_tell_57 : decode cX7_tell 57 = .ok (.ireturn, 1) := by decide +kernel
theorem dX7_forget_0 : decode cX7_forget 0 = .ok (.aload_n 0, 1) := by decide +kernel
theorem dX7_forget_1 : decode cX7_forget 1 = .ok (.getfield 51, 3) := by decide +kernel
theorem dX7_forget_4 : decode cX7_forget 4 = .ok (.getfield 93, 3) := by decide +kernel
theorem dX7_forget_7 : decode cX7_forget 7 = .ok (.istore_n 1, 1) := by decide +kernel
theorem dX7_forget_8 : decode cX7_forget 8 = .ok (.aload_n 0, 1) := by decide +kernel
theorem dX7_forget_9 : decode cX7_forget 9 = .ok (.getfield 51, 3) := by decide +kernel
theorem dX7_forget_12 : decode cX7_forget 12 = .ok (.iconst 0, 1) := by decide +kernel
theorem dX7_forget_13 : decode cX7_forget 13 = .ok (.putfield 93, 3) := by decide +kernel
theorem dX7_forget_16 : decode cX7_forget 16 = .ok (.iload_n 1, 1) := by decide +kernel
theorem dX7_forget_17 : decode cX7_forget 17 = .ok (.ireturn, 1) := by decide +kernel
theorem dX7_fried_0 : decode cX7_fried 0 = .ok (.iload_n 1, 1) := by decide +kernel
theorem dX7_fried_1 : decode cX7_fried 1 = .ok (.iconst 0, 1) := by decide +kernel
theorem dX7_fried_2 : decode cX7_fried 2 = .ok (.aload_n 0, 1) := by decide +kernel
theorem dX7_fried_3 : decode cX7_fried 3 = .ok (.getfield 51, 3) := by decide +kernel
theorem dX7_fried_6 : decode cX7_fried 6 = .ok (.getfield 93, 3) := by decide +kernel
theorem dX7_fried_9 : decode cX7_fried 9 = .ok (.invokestatic 169, 3) := by decide +kernel
theorem dX7_fried_12 : decode cX7_fried 12 = .ok (.ifCond .ne 5, 3) := by decide +kernel
theorem dX7_fried_15 : decode cX7_fried 15 = .ok (.iconst (-1), 1) := by decide +kernel
theorem dX7_fried_16 : decode cX7_fried 16 = .ok (.ireturn, 1) := by decide +kernel
theorem dX7_fried_17 : decode cX7_fried 17 = .ok (.aload_n 0, 1) := by decide +kernel
theorem dX7_fried_18 : decode cX7_fried 18 = .ok (.getfield 51, 3) := by decide +kernel
theorem dX7_fried_21 : decode cX7_fried 21 = .ok (.iload_n 1, 1) := by decide +kernel
theorem dX7_fried_22 : decode cX7_fried 22 = .ok (.aload_n 0, 1) := by decide +kernel
theorem dX7_fried_23 : decode cX7_fried 23 = .ok (.getfield 19, 3) := by decide +kernel
theorem dX7_fried_26 : decode cX7_fried 26 = .ok (.getfield 133, 3) := by decide +kernel
theorem dX7_fried_29 : decode cX7_fried 29 = .ok (.invokevirtual 276, 3) := by decide +kernel
theorem dX7_fried_32 : decode cX7_fried 32 = .ok (.aload_n 0, 1) := by decide +kernel
theorem dX7_fried_33 : decode cX7_fried 33 = .ok (.getfield 51, 3) := by decide +kernel
theorem dX7_fried_36 : decode cX7_fried 36 = .ok (.aload_n 0, 1) := by decide +kernel
theorem dX7_fried_37 : decode cX7_fried 37 = .ok (.getfield 19, 3) := by decide +kernel
theorem dX7_fried_40 : decode cX7_fried 40 = .ok (.getfield 133, 3) := by decide +kernel
theorem dX7_fried_43 : decode cX7_fried 43 = .ok (.invokevirtual 280, 3) := by decide +kernel
theorem dX7_fried_46 : decode cX7_fried 46 = .ok (.ireturn, 1) := by decide +kernel
theorem dX7_sure_0 : decode cX7_sure 0 = .ok (.iload_n 1, 1) := by decide +kernel
theorem dX7_sure_1 : decode cX7_sure 1 = .ok (.iconst 0, 1) := by decide +kernel
theorem dX7_sure_2 : decode cX7_sure 2 = .ok (.aload_n 0, 1) := by decide +kernel
theorem dX7_sure_3 : decode cX7_sure 3 = .ok (.getfield 51, 3) := by decide +kernel
theorem dX7_sure_6 : decode cX7_sure 6 = .ok (.getfield 93, 3) := by decide +kernel
theorem dX7_sure_9 : decode cX7_sure 9 = .ok (.invokestatic 169, 3) := by decide +kernel
theorem dX7_sure_12 : decode cX7_sure 12 = .ok (.ifCond .eq 11, 3) := by decide +kernel
theorem dX7_sure_15 : decode cX7_sure 15 = .ok (.aload_n 0, 1) := by decide +kernel
theorem dX7_sure_16 : decode cX7_sure 16 = .ok (.iload_n 2, 1) := by decide +kernel
theorem dX7_sure_17 : decode cX7_sure 17 = .ok (.invokevirtual 99, 3) := by decide +kernel
theorem dX7_sure_20 : decode cX7_sure 20 = .ok (.ifCond .ne 5, 3) := by decide +kernel
theorem dX7_sure_23 : decode cX7_sure 23 = .ok (.iconst (-1), 1) := by decide +kernel
theorem dX7_sure_24 : decode cX7_sure 24 = .ok (.ireturn, 1) := by decide +kernel
theorem dX7_sure_25 : decode cX7_sure 25 = .ok (.aload_n 0, 1) := by decide +kernel
theorem dX7_sure_26 : decode cX7_sure 26 = .ok (.getfield 51, 3) := by decide +kernel
theorem dX7_sure_29 : decode cX7_sure 29 = .ok (.iload_n 1, 1) := by decide +kernel
theorem dX7_sure_30 : decode cX7_sure 30 = .ok (.aload_n 0, 1) := by decide +kernel
theorem dX7_sure_31 : decode cX7_sure 31 = .ok (.getfield 19, 3) := by decide +kernel
theorem dX7_sure_34 : decode cX7_sure 34 = .ok (.getfield 133, 3) := by decide +kernel
theorem dX7_sure_37 : decode cX7_sure 37 = .ok (.invokevirtual 276, 3) := by decide +kernel
theorem dX7_sure_40 : decode cX7_sure 40 = .ok (.aload_n 0, 1) := by decide +kernel
theorem dX7_sure_41 : decode cX7_sure 41 = .ok (.getfield 51, 3) := by decide +kernel
theorem dX7_sure_44 : decode cX7_sure 44 = .ok (.iload_n 2, 1) := by decide +kernel
theorem dX7_sure_45 : decode cX7_sure 45 = .ok (.aload_n 0, 1) := by decide +kernel
theorem dX7_sure_46 : decode cX7_sure 46 = .ok (.getfield 19, 3) := by decide +kernel
theorem dX7_sure_49 : decode cX7_sure 49 = .ok (.getfield 133, 3) := by decide +kernel
theorem dX7_sure_52 : decode cX7_sure 52 = .ok (.invokevirtual 283, 3) := by decide +kernel
theorem dX7_sure_55 : decode cX7_sure 55 = .ok (.ireturn, 1) := by decide +kernel
theorem dX7_rock_0 : decode cX7_rock 0 = .ok (.iload_n 1, 1) := by decide +kernel
theorem dX7_rock_1 : decode cX7_rock 1 = .ok (.iconst 1, 1) := by decide +kernel
theorem dX7_rock_2 : decode cX7_rock 2 = .ok (.bipush 60, 2) := by decide +kernel
theorem dX7_rock_4 : decode cX7_rock 4 = .ok (.invokestatic 169, 3) := by decide +kernel
theorem dX7_rock_7 : decode cX7_rock 7 = .ok (.ifCond .eq 23, 3) := by decide +kernel
theorem dX7_rock_10 : decode cX7_rock 10 = .ok (.iload_n 2, 1) := by decide +kernel
theorem dX7_rock_11 : decode cX7_rock 11 = .ok (.iconst 0, 1) := by decide +kernel
theorem dX7_rock_12 : decode cX7_rock 12 = .ok (.aload_n 0, 1) := by decide +kernel
theorem dX7_rock_13 : decode cX7_rock 13 = .ok (.getfield 19, 3) := by decide +kernel
theorem dX7_rock_16 : decode cX7_rock 16 = .ok (.invokevirtual 286, 3) := by decide +kernel
theorem dX7_rock_19 : decode cX7_rock 19 = .ok (.invokestatic 169, 3) := by decide +kernel
theorem dX7_rock_22 : decode cX7_rock 22 = .ok (.ifCond .eq 8, 3) := by decide +kernel
theorem dX7_rock_25 : decode cX7_rock 25 = .ok (.iload_n 3, 1) := by decide +kernel
theorem dX7_rock_26 : decode cX7_rock 26 = .ok (.iconst (-1), 1) := by decide +kernel
theorem dX7_rock_27 : decode cX7_rock 27 = .ok (.if_icmp .ge 5, 3) := by decide +kernel
theorem dX7_rock_30 : decode cX7_rock 30 = .ok (.iconst (-1), 1) := by decide +kernel
theorem dX7_rock_31 : decode cX7_rock 31 = .ok (.ireturn, 1) := by decide +kernel
theorem dX7_rock_32 : decode cX7_rock 32 = .ok (.iconst 0, 1) := by decide +kernel
theorem dX7_rock_33 : decode cX7_rock 33 = .ok (.istore 4, 2) := by decide +kernel
theorem dX7_rock_35 : decode cX7_rock 35 = .ok (.iconst 0, 1) := by decide +kernel
theorem dX7_rock_36 : decode cX7_rock 36 = .ok (.istore 5, 2) := by decide +kernel
theorem dX7_rock_38 : decode cX7_rock 38 = .ok (.iload 5, 2) := by decide +kernel
theorem dX7_rock_40 : decode cX7_rock 40 = .ok (.bipush 40, 2) := by decide +kernel
theorem dX7_rock_42 : decode cX7_rock 42 = .ok (.if_icmp .ge 41, 3) := by decide +kernel
theorem dX7_rock_45 : decode cX7_rock 45 = .ok (.aload_n 0, 1) := by decide +kernel
theorem dX7_rock_46 : decode cX7_rock 46 = .ok (.iload 5, 2) := by decide +kernel
theorem dX7_rock_48 : decode cX7_rock 48 = .ok (.invokevirtual 289, 3) := by decide +kernel
theorem dX7_rock_51 : decode cX7_rock 51 = .ok (.ifCond .eq 26, 3) := by decide +kernel
theorem dX7_rock_54 : decode cX7_rock 54 = .ok (.aload_n 0, 1) := by decide +kernel
theorem dX7_rock_55 : decode cX7_rock 55 = .ok (.iload 5, 2) := by decide +kernel
theorem dX7_rock_57 : decode cX7_rock 57 = .ok (.iload_n 1, 1) := by decide +kernel
theorem dX7_rock_58 : decode cX7_rock 58 = .ok (.invokevirtual 292, 3) := by decide +kernel
theorem dX7_rock_61 : decode cX7_rock 61 = .ok (.iload_n 2, 1) := by decide +kernel
theorem dX7_rock_62 : decode cX7_rock 62 = .ok (.if_icmp .ne 15, 3) := by decide +kernel
theorem dX7_rock_65 : decode cX7_rock 65 = .ok (.iload 4, 2) := by decide +kernel
theorem dX7_rock_67 : decode cX7_rock 67 = .ok (.iload_n 3, 1) := by decide +kernel
theorem dX7_rock_68 : decode cX7_rock 68 = .ok (.if_icmp .ne 6, 3) := by decide +kernel
theorem dX7_rock_71 : decode cX7_rock 71 = .ok (.iload 5, 2) := by decide +kernel
theorem dX7_rock_73 : decode cX7_rock 73 = .ok (.ireturn, 1) := by decide +kernel
theorem dX7_rock_74 : decode cX7_rock 74 = .ok (.iinc 4 1, 3) := by decide +kernel
theorem dX7_rock_77 : decode cX7_rock 77 = .ok (.iinc 5 1, 3) := by decide +kernel
theorem dX7_rock_80 : decode cX7_rock 80 = .ok (.goto (-42), 3) := by decide +kernel
theorem dX7_rock_83 : decode cX7_rock 83 = .ok (.iload_n 3, 1) := by decide +kernel
theorem dX7_rock_84 : decode cX7_rock 84 = .ok (.iconst (-1), 1) := by decide +kernel
theorem dX7_rock_85 : decode cX7_rock 85 = .ok (.if_icmp .ne 8, 3) := by decide +kernel
theorem dX7_rock_88 : decode cX7_rock 88 = .ok (.iload 4, 2) := by decide +kernel
theorem dX7_rock_90 : decode cX7_rock 90 = .ok (.goto 4, 3) := by decide +kernel
theorem dX7_rock_93 : decode cX7_rock 93 = .ok (.iconst (-1), 1) := by decide +kernel
theorem dX7_rock_94 : decode cX7_rock 94 = .ok (.ireturn, 1) := by decide +kernel
theorem dX7_mayBeRock_0 : decode cX7_mayBeRock 0 = .ok (.aload_n 0, 1) := by decide +kernel
theorem dX7_mayBeRock_1 : decode cX7_mayBeRock 1 = .ok (.getfield 19, 3) := by decide +kernel
theorem dX7_mayBeRock_4 : decode cX7_mayBeRock 4 = .ok (.getfield 144, 3) := by decide +kernel
theorem dX7_mayBeRock_7 : decode cX7_mayBeRock 7 = .ok (.iload_n 1, 1) := by decide +kernel
theorem dX7_mayBeRock_8 : decode cX7_mayBeRock 8 = .ok (.iaload, 1) := by decide +kernel
theorem dX7_mayBeRock_9 : decode cX7_mayBeRock 9 = .ok (.ifCond .eq 5, 3) := by decide +kernel
theorem dX7_mayBeRock_12 : decode cX7_mayBeRock 12 = .ok (.iconst 0, 1) := by decide +kernel
theorem dX7_mayBeRock_13 : decode cX7_mayBeRock 13 = .ok (.ireturn, 1) := by decide +kernel
theorem dX7_mayBeRock_14 : decode cX7_mayBeRock 14 = .ok (.iconst 0, 1) := by decide +kernel
theorem dX7_mayBeRock_15 : decode cX7_mayBeRock 15 = .ok (.istore_n 2, 1) := by decide +kernel
theorem dX7_mayBeRock_16 : decode cX7_mayBeRock 16 = .ok (.iload_n 2, 1) := by decide +kernel
theorem dX7_mayBeRock_17 : decode cX7_mayBeRock 17 = .ok (.aload_n 0, 1) := by decide +kernel
theorem dX7_mayBeRock_18 : decode cX7_mayBeRock 18 = .ok (.getfield 19, 3) := by decide +kernel
theorem dX7_mayBeRock_21 : decode cX7_mayBeRock 21 = .ok (.getfield 133, 3) := by decide +kernel
theorem dX7_mayBeRock_24 : decode cX7_mayBeRock 24 = .ok (.if_icmp .ge 23, 3) := by decide +kernel
theorem dX7_mayBeRock_27 : decode cX7_mayBeRock 27 = .ok (.aload_n 0, 1) := by decide +kernel
theorem dX7_mayBeRock_28 : decode cX7_mayBeRock 28 = .ok (.getfield 19, 3) := by decide +kernel
theorem dX7_mayBeRock_31 : decode cX7_mayBeRock 31 = .ok (.iload_n 2, 1) := by decide +kernel
theorem dX7_mayBeRock_32 : decode cX7_mayBeRock 32 = .ok (.invokevirtual 295, 3) := by decide +kernel
theorem dX7_mayBeRock_35 : decode cX7_mayBeRock 35 = .ok (.iload_n 1, 1) := by decide +kernel
theorem dX7_mayBeRock_36 : decode cX7_mayBeRock 36 = .ok (.if_icmp .ne 5, 3) := by decide +kernel
theorem dX7_mayBeRock_39 : decode cX7_mayBeRock 39 = .ok (.iconst 0, 1) := by decide +kernel
theorem dX7_mayBeRock_40 : decode cX7_mayBeRock 40 = .ok (.ireturn, 1) := by decide +kernel
theorem dX7_mayBeRock_41 : decode cX7_mayBeRock 41 = .ok (.iinc 2 1, 3) := by decide +kernel
theorem dX7_mayBeRock_44 : decode cX7_mayBeRock 44 = .ok (.goto (-28), 3) := by decide +kernel
theorem dX7_mayBeRock_47 : decode cX7_mayBeRock 47 = .ok (.iconst 1, 1) := by decide +kernel
theorem dX7_mayBeRock_48 : decode cX7_mayBeRock 48 = .ok (.ireturn, 1) := by decide +kernel
theorem dX7_lostWithRock_0 : decode cX7_lostWithRock 0 = .ok (.aload_n 0, 1) := by decide +kernel
theorem dX7_lostWithRock_1 : decode cX7_lostWithRock 1 = .ok (.getfield 19, 3) := by decide +kernel
theorem dX7_lostWithRock_4 : decode cX7_lostWithRock 4 = .ok (.getfield 144, 3) := by decide +kernel
theorem dX7_lostWithRock_7 : decode cX7_lostWithRock 7 = .ok (.iload_n 1, 1) := by decide +kernel
theorem dX7_lostWithRock_8 : decode cX7_lostWithRock 8 = .ok (.iconst 1, 1) := by decide +kernel
theorem dX7_lostWithRock_9 : decode cX7_lostWithRock 9 = .ok (.iastore, 1) := by decide +kernel
theorem dX7_lostWithRock_10 : decode cX7_lostWithRock 10 = .ok (.aload_n 0, 1) := by decide +kernel
theorem dX7_lostWithRock_11 : decode cX7_lostWithRock 11 = .ok (.getfield 19, 3) := by decide +kernel
theorem dX7_lostWithRock_14 : decode cX7_lostWithRock 14 = .ok (.aload_n 0, 1) := by decide +kernel
theorem dX7_lostWithRock_15 : decode cX7_lostWithRock 15 = .ok (.getfield 30, 3) := by decide +kernel
theorem dX7_lostWithRock_18 : decode cX7_lostWithRock 18 = .ok (.invokevirtual 86, 3) := by decide +kernel
theorem dX7_lostWithRock_21 : decode cX7_lostWithRock 21 = .ok (.aload_n 0, 1) := by decide +kernel
theorem dX7_lostWithRock_22 : decode cX7_lostWithRock 22 = .ok (.getfield 19, 3) := by decide +kernel
theorem dX7_lostWithRock_25 : decode cX7_lostWithRock 25 = .ok (.aload_n 0, 1) := by decide +kernel
theorem dX7_lostWithRock_26 : decode cX7_lostWithRock 26 = .ok (.getfield 30, 3) := by decide +kernel
theorem dX7_lostWithRock_29 : decode cX7_lostWithRock 29 = .ok (.iload_n 2, 1) := by decide +kernel
theorem dX7_lostWithRock_30 : decode cX7_lostWithRock 30 = .ok (.aload_n 0, 1) := by decide +kernel
theorem dX7_lostWithRock_31 : decode cX7_lostWithRock 31 = .ok (.getfield 19, 3) := by decide +kernel
theorem dX7_lostWithRock_34 : decode cX7_lostWithRock 34 = .ok (.getfield 119, 3) := by decide +kernel
theorem dX7_lostWithRock_37 : decode cX7_lostWithRock 37 = .ok (.invokevirtual 182, 3) := by decide +kernel
theorem dX7_lostWithRock_40 : decode cX7_lostWithRock 40 = .ok (.aload_n 0, 1) := by decide +kernel
theorem dX7_lostWithRock_41 : decode cX7_lostWithRock 41 = .ok (.getfield 19, 3) := by decide +kernel
theorem dX7_lostWithRock_44 : decode cX7_lostWithRock 44 = .ok (.getfield 144, 3) := by decide +kernel
theorem dX7_lostWithRock_47 : decode cX7_lostWithRock 47 = .ok (.iload_n 1, 1) := by decide +kernel
theorem dX7_lostWithRock_48 : decode cX7_lostWithRock 48 = .ok (.iconst 0, 1) := by decide +kernel
theorem dX7_lostWithRock_49 : decode cX7_lostWithRock 49 = .ok (.iastore, 1) := by decide +kernel
theorem dX7_lostWithRock_50 : decode cX7_lostWithRock 50 = .ok (.aload_n 0, 1) := by decide +kernel
theorem dX7_lostWithRock_51 : decode cX7_lostWithRock 51 = .ok (.getfield 30, 3) := by decide +kernel
theorem dX7_lostWithRock_54 : decode cX7_lostWithRock 54 = .ok (.getfield 113, 3) := by decide +kernel
theorem dX7_lostWithRock_57 : decode cX7_lostWithRock 57 = .ok (.ireturn, 1) := by decide +kernel
theorem dX7_hold_0 : decode cX7_hold 0 = .ok (.iload_n 1, 1) := by decide +kernel
theorem dX7_hold_1 : decode cX7_hold 1 = .ok (.iconst 0, 1) := by decide +kernel
theorem dX7_hold_2 : decode cX7_hold 2 = .ok (.iconst 2, 1) := by decide +kernel
theorem dX7_hold_3 : decode cX7_hold 3 = .ok (.invokestatic 169, 3) := by decide +kernel
theorem dX7_hold_6 : decode cX7_hold 6 = .ok (.ifCond .ne 5, 3) := by decide +kernel
theorem dX7_hold_9 : decode cX7_hold 9 = .ok (.iconst 0, 1) := by decide +kernel
theorem dX7_hold_10 : decode cX7_hold 10 = .ok (.ireturn, 1) := by decide +kernel
theorem dX7_hold_11 : decode cX7_hold 11 = .ok (.aload_n 0, 1) := by decide +kernel
theorem dX7_hold_12 : decode cX7_hold 12 = .ok (.getfield 40, 3) := by decide +kernel
theorem dX7_hold_15 : decode cX7_hold 15 = .ok (.iload_n 1, 1) := by decide +kernel
theorem dX7_hold_16 : decode cX7_hold 16 = .ok (.aaload, 1) := by decide +kernel
theorem dX7_hold_17 : decode cX7_hold 17 = .ok (.aload_n 0, 1) := by decide +kernel
theorem dX7_hold_18 : decode cX7_hold 18 = .ok (.getfield 26, 3) := by decide +kernel
theorem dX7_hold_21 : decode cX7_hold 21 = .ok (.invokevirtual 267, 3) := by decide +kernel
theorem dX7_hold_24 : decode cX7_hold 24 = .ok (.aload_n 0, 1) := by decide +kernel
theorem dX7_hold_25 : decode cX7_hold 25 = .ok (.dup, 1) := by decide +kernel
theorem dX7_hold_26 : decode cX7_hold 26 = .ok (.getfield 44, 3) := by decide +kernel
theorem dX7_hold_29 : decode cX7_hold 29 = .ok (.iconst 1, 1) := by decide +kernel
theorem dX7_hold_30 : decode cX7_hold 30 = .ok (.iload_n 1, 1) := by decide +kernel
theorem dX7_hold_31 : decode cX7_hold 31 = .ok (.ishl, 1) := by decide +kernel
theorem dX7_hold_32 : decode cX7_hold 32 = .ok (.ior, 1) := by decide +kernel
theorem dX7_hold_33 : decode cX7_hold 33 = .ok (.putfield 44, 3) := by decide +kernel
theorem dX7_hold_36 : decode cX7_hold 36 = .ok (.iconst 1, 1) := by decide +kernel
theorem dX7_hold_37 : decode cX7_hold 37 = .ok (.ireturn, 1) := by decide +kernel
theorem dX7_restore_0 : decode cX7_restore 0 = .ok (.iload_n 1, 1) := by decide +kernel
theorem dX7_restore_1 : decode cX7_restore 1 = .ok (.iconst 0, 1) := by decide +kernel
theorem dX7_restore_2 : decode cX7_restore 2 = .ok (.iconst 2, 1) := by decide +kernel
theorem dX7_restore_3 : decode cX7_restore 3 = .ok (.invokestatic 169, 3) := by decide +kernel
theorem dX7_restore_6 : decode cX7_restore 6 = .ok (.ifCond .eq 14, 3) := by decide +kernel
theorem dX7_restore_9 : decode cX7_restore 9 = .ok (.aload_n 0, 1) := by decide +kernel
theorem dX7_restore_10 : decode cX7_restore 10 = .ok (.getfield 44, 3) := by decide +kernel
theorem dX7_restore_13 : decode cX7_restore 13 = .ok (.iload_n 1, 1) := by decide +kernel
theorem dX7_restore_14 : decode cX7_restore 14 = .ok (.ishr, 1) := by decide +kernel
theorem dX7_restore_15 : decode cX7_restore 15 = .ok (.iconst 1, 1) := by decide +kernel
theorem dX7_restore_16 : decode cX7_restore 16 = .ok (.iand, 1) := by decide +kernel
theorem dX7_restore_17 : decode cX7_restore 17 = .ok (.ifCond .ne 5, 3) := by decide +kernel
theorem dX7_restore_20 : decode cX7_restore 20 = .ok (.iconst 0, 1) := by decide +kernel
theorem dX7_restore_21 : decode cX7_restore 21 = .ok (.ireturn, 1) := by decide +kernel
theorem dX7_restore_22 : decode cX7_restore 22 = .ok (.aload_n 0, 1) := by decide +kernel
theorem dX7_restore_23 : decode cX7_restore 23 = .ok (.getfield 26, 3) := by decide +kernel
theorem dX7_restore_26 : decode cX7_restore 26 = .ok (.aload_n 0, 1) := by decide +kernel
theorem dX7_restore_27 : decode cX7_restore 27 = .ok (.getfield 40, 3) := by decide +kernel
theorem dX7_restore_30 : decode cX7_restore 30 = .ok (.iload_n 1, 1) := by decide +kernel
theorem dX7_restore_31 : decode cX7_restore 31 = .ok (.aaload, 1) := by decide +kernel
theorem dX7_restore_32 : decode cX7_restore 32 = .ok (.invokevirtual 267, 3) := by decide +kernel
theorem dX7_restore_35 : decode cX7_restore 35 = .ok (.aload_n 0, 1) := by decide +kernel
theorem dX7_restore_36 : decode cX7_restore 36 = .ok (.getfield 36, 3) := by decide +kernel
theorem dX7_restore_39 : decode cX7_restore 39 = .ok (.invokevirtual 90, 3) := by decide +kernel
theorem dX7_restore_42 : decode cX7_restore 42 = .ok (.iconst 1, 1) := by decide +kernel
theorem dX7_restore_43 : decode cX7_restore 43 = .ok (.ireturn, 1) := by decide +kernel
theorem dX7_count_0 : decode cX7_count 0 = .ok (.iload_n 1, 1) := by decide +kernel
theorem dX7_count_1 : decode cX7_count 1 = .ok (.tableswitch 198 0 13 #[71, 79, 87, 95, 103, 111, 119, 127, 142, 150, 158, 166, 174, 186], 71) := by decide +kernel
theorem dX7_count_72 : decode cX7_count 72 = .ok (.aload_n 0, 1) := by decide +kernel
theorem dX7_count_73 : decode cX7_count 73 = .ok (.getfield 19, 3) := by decide +kernel
theorem dX7_count_76 : decode cX7_count 76 = .ok (.getfield 298, 3) := by decide +kernel
theorem dX7_count_79 : decode cX7_count 79 = .ok (.ireturn, 1) := by decide +kernel
theorem dX7_count_80 : decode cX7_count 80 = .ok (.aload_n 0, 1) := by decide +kernel
theorem dX7_count_81 : decode cX7_count 81 = .ok (.getfield 19, 3) := by decide +kernel
theorem dX7_count_84 : decode cX7_count 84 = .ok (.getfield 301, 3) := by decide +kernel
theorem dX7_count_87 : decode cX7_count 87 = .ok (.ireturn, 1) := by decide +kernel
theorem dX7_count_88 : decode cX7_count 88 = .ok (.aload_n 0, 1) := by decide +kernel
theorem dX7_count_89 : decode cX7_count 89 = .ok (.getfield 19, 3) := by decide +kernel
theorem dX7_count_92 : decode cX7_count 92 = .ok (.getfield 133, 3) := by decide +kernel
theorem dX7_count_95 : decode cX7_count 95 = .ok (.ireturn, 1) := by decide +kernel
theorem dX7_count_96 : decode cX7_count 96 = .ok (.aload_n 0, 1) := by decide +kernel
theorem dX7_count_97 : decode cX7_count 97 = .ok (.getfield 26, 3) := by decide +kernel
theorem dX7_count_100 : decode cX7_count 100 = .ok (.getfield 126, 3) := by decide +kernel
theorem dX7_count_103 : decode cX7_count 103 = .ok (.ireturn, 1) := by decide +kernel
theorem dX7_count_104 : decode cX7_count 104 = .ok (.aload_n 0, 1) := by decide +kernel
theorem dX7_count_105 : decode cX7_count 105 = .ok (.getfield 26, 3) := by decide +kernel
theorem dX7_count_108 : decode cX7_count 108 = .ok (.getfield 196, 3) := by decide +kernel
theorem dX7_count_111 : decode cX7_count 111 = .ok (.ireturn, 1) := by decide +kernel
theorem dX7_count_112 : decode cX7_count 112 = .ok (.aload_n 0, 1) := by decide +kernel
theorem dX7_count_113 : decode cX7_count 113 = .ok (.getfield 26, 3) := by decide +kernel
theorem dX7_count_116 : decode cX7_count 116 = .ok (.getfield 113, 3) := by decide +kernel
theorem dX7_count_119 : decode cX7_count 119 = .ok (.ireturn, 1) := by decide +kernel
theorem dX7_count_120 : decode cX7_count 120 = .ok (.aload_n 0, 1) := by decide +kernel
theorem dX7_count_121 : decode cX7_count 121 = .ok (.getfield 26, 3) := by decide +kernel
theorem dX7_count_124 : decode cX7_count 124 = .ok (.getfield 116, 3) := by decide +kernel
theorem dX7_count_127 : decode cX7_count 127 = .ok (.ireturn, 1) := by decide +kernel
theorem dX7_count_128 : decode cX7_count 128 = .ok (.aload_n 0, 1) := by decide +kernel
theorem dX7_count_129 : decode cX7_count 129 = .ok (.getfield 19, 3) := by decide +kernel
theorem dX7_count_132 : decode cX7_count 132 = .ok (.aload_n 0, 1) := by decide +kernel
theorem dX7_count_133 : decode cX7_count 133 = .ok (.getfield 26, 3) := by decide +kernel
theorem dX7_count_136 : decode cX7_count 136 = .ok (.getfield 126, 3) := by decide +kernel
theorem dX7_count_139 : decode cX7_count 139 = .ok (.invokevirtual 172, 3) := by decide +kernel
theorem dX7_count_142 : decode cX7_count 142 = .ok (.ireturn, 1) := by decide +kernel
theorem dX7_count_143 : decode cX7_count 143 = .ok (.aload_n 0, 1) := by decide +kernel
theorem dX7_count_144 : decode cX7_count 144 = .ok (.getfield 12, 3) := by decide +kernel
theorem dX7_count_147 : decode cX7_count 147 = .ok (.getfield 66, 3) := by decide +kernel
theorem dX7_count_150 : decode cX7_count 150 = .ok (.ireturn, 1) := by decide +kernel
theorem dX7_count_151 : decode cX7_count 151 = .ok (.aload_n 0, 1) := by decide +kernel
theorem dX7_count_152 : decode cX7_count 152 = .ok (.getfield 36, 3) := by decide +kernel
theorem dX7_count_155 : decode cX7_count 155 = .ok (.getfield 304, 3) := by decide +kernel
theorem dX7_count_158 : decode cX7_count 158 = .ok (.ireturn, 1) := by decide +kernel
theorem dX7_count_159 : decode cX7_count 159 = .ok (.aload_n 0, 1) := by decide +kernel
theorem dX7_count_160 : decode cX7_count 160 = .ok (.getfield 51, 3) := by decide +kernel
theorem dX7_count_163 : decode cX7_count 163 = .ok (.getfield 93, 3) := by decide +kernel
theorem dX7_count_166 : decode cX7_count 166 = .ok (.ireturn, 1) := by decide +kernel
theorem dX7_count_167 : decode cX7_count 167 = .ok (.aload_n 0, 1) := by decide +kernel
theorem dX7_count_168 : decode cX7_count 168 = .ok (.getfield 44, 3) := by decide +kernel
theorem dX7_count_171 : decode cX7_count 171 = .ok (.invokestatic 199, 3) := by decide +kernel
theorem dX7_count_174 : decode cX7_count 174 = .ok (.ireturn, 1) := by decide +kernel
theorem dX7_count_175 : decode cX7_count 175 = .ok (.aload_n 0, 1) := by decide +kernel
theorem dX7_count_176 : decode cX7_count 176 = .ok (.getfield 19, 3) := by decide +kernel
theorem dX7_count_179 : decode cX7_count 179 = .ok (.iconst 0, 1) := by decide +kernel
theorem dX7_count_180 : decode cX7_count 180 = .ok (.invokevirtual 222, 3) := by decide +kernel
theorem dX7_count_183 : decode cX7_count 183 = .ok (.invokestatic 258, 3) := by decide +kernel
theorem dX7_count_186 : decode cX7_count 186 = .ok (.ireturn, 1) := by decide +kernel
theorem dX7_count_187 : decode cX7_count 187 = .ok (.aload_n 0, 1) := by decide +kernel
theorem dX7_count_188 : decode cX7_count 188 = .ok (.getfield 19, 3) := by decide +kernel
theorem dX7_count_191 : decode cX7_count 191 = .ok (.aload_n 0, 1) := by decide +kernel
theorem dX7_count_192 : decode cX7_count 192 = .ok (.getfield 26, 3) := by decide +kernel
theorem dX7_count_195 : decode cX7_count 195 = .ok (.invokevirtual 247, 3) := by decide +kernel
theorem dX7_count_198 : decode cX7_count 198 = .ok (.ireturn, 1) := by decide +kernel
theorem dX7_count_199 : decode cX7_count 199 = .ok (.iconst (-1), 1) := by decide +kernel
theorem dX7_count_200 : decode cX7_count 200 = .ok (.ireturn, 1) := by decide +kernel
theorem dX7_isBoat_0 : decode cX7_isBoat 0 = .ok (.iload_n 1, 1) := by decide +kernel
theorem dX7_isBoat_1 : decode cX7_isBoat 1 = .ok (.ifCond .lt 18, 3) := by decide +kernel
theorem dX7_isBoat_4 : decode cX7_isBoat 4 = .ok (.iload_n 1, 1) := by decide +kernel
theorem dX7_isBoat_5 : decode cX7_isBoat 5 = .ok (.aload_n 0, 1) := by decide +kernel
theorem dX7_isBoat_6 : decode cX7_isBoat 6 = .ok (.getfield 19, 3) := by decide +kernel
theorem dX7_isBoat_9 : decode cX7_isBoat 9 = .ok (.getfield 133, 3) := by decide +kernel
theorem dX7_isBoat_12 : decode cX7_isBoat 12 = .ok (.if_icmp .ge 7, 3) := by decide +kernel
theorem dX7_isBoat_15 : decode cX7_isBoat 15 = .ok (.iconst 1, 1) := by decide +kernel
theorem dX7_isBoat_16 : decode cX7_isBoat 16 = .ok (.goto 4, 3) := by decide +kernel
theorem dX7_isBoat_19 : decode cX7_isBoat 19 = .ok (.iconst 0, 1) := by decide +kernel
theorem dX7_isBoat_20 : decode cX7_isBoat 20 = .ok (.ireturn, 1) := by decide +kernel
theorem dX7_arePair_0 : decode cX7_arePair 0 = .ok (.aload_n 0, 1) := by decide +kernel
theorem dX7_arePair_1 : decode cX7_arePair 1 = .ok (.iload_n 1, 1) := by decide +kernel
theorem dX7_arePair_2 : decode cX7_arePair 2 = .ok (.invokevirtual 99, 3) := by decide +kernel
theorem dX7_arePair_5 : decode cX7_arePair 5 = .ok (.ifCond .eq 20, 3) := by decide +kernel
theorem dX7_arePair_8 : decode cX7_arePair 8 = .ok (.aload_n 0, 1) := by decide +kernel
theorem dX7_arePair_9 : decode cX7_arePair 9 = .ok (.iload_n 2, 1) := by decide +kernel
theorem dX7_arePair_10 : decode cX7_arePair 10 = .ok (.invokevirtual 99, 3) := by decide +kernel
theorem dX7_arePair_13 : decode cX7_arePair 13 = .ok (.ifCond .eq 12, 3) := by decide +kernel
theorem dX7_arePair_16 : decode cX7_arePair 16 = .ok (.iload_n 1, 1) := by decide +kernel
theorem dX7_arePair_17 : decode cX7_arePair 17 = .ok (.iload_n 2, 1) := by decide +kernel
theorem dX7_arePair_18 : decode cX7_arePair 18 = .ok (.if_icmp .eq 7, 3) := by decide +kernel
theorem dX7_arePair_21 : decode cX7_arePair 21 = .ok (.iconst 1, 1) := by decide +kernel
theorem dX7_arePair_22 : decode cX7_arePair 22 = .ok (.goto 4, 3) := by decide +kernel
theorem dX7_arePair_25 : decode cX7_arePair 25 = .ok (.iconst 0, 1) := by decide +kernel
theorem dX7_arePair_26 : decode cX7_arePair 26 = .ok (.ireturn, 1) := by decide +kernel
theorem dX7_isWithin_0 : decode cX7_isWithin 0 = .ok (.iload_n 0, 1) := by decide +kernel
theorem dX7_isWithin_1 : decode cX7_isWithin 1 = .ok (.iload_n 1, 1) := by decide +kernel
theorem dX7_isWithin_2 : decode cX7_isWithin 2 = .ok (.if_icmp .lt 12, 3) := by decide +kernel
theorem dX7_isWithin_5 : decode cX7_isWithin 5 = .ok (.iload_n 0, 1) := by decide +kernel
theorem dX7_isWithin_6 : decode cX7_isWithin 6 = .ok (.iload_n 2, 1) := by decide +kernel
theorem dX7_isWithin_7 : decode cX7_isWithin 7 = .ok (.if_icmp .gt 7, 3) := by decide +kernel
theorem dX7_isWithin_10 : decode cX7_isWithin 10 = .ok (.iconst 1, 1) := by decide +kernel
theorem dX7_isWithin_11 : decode cX7_isWithin 11 = .ok (.goto 4, 3) := by decide +kernel
theorem dX7_isWithin_14 : decode cX7_isWithin 14 = .ok (.iconst 0, 1) := by decide +kernel
theorem dX7_isWithin_15 : decode cX7_isWithin 15 = .ok (.ireturn, 1) := by decide +kernel
theorem dX7_leastOf_0 : decode cX7_leastOf 0 = .ok (.iconst 0, 1) := by decide +kernel
theorem dX7_leastOf_1 : decode cX7_leastOf 1 = .ok (.istore_n 1, 1) := by decide +kernel
theorem dX7_leastOf_2 : decode cX7_leastOf 2 = .ok (.iload_n 1, 1) := by decide +kernel
theorem dX7_leastOf_3 : decode cX7_leastOf 3 = .ok (.bipush 6, 2) := by decide +kernel
theorem dX7_leastOf_5 : decode cX7_leastOf 5 = .ok (.if_icmp .ge 20, 3) := by decide +kernel
theorem dX7_leastOf_8 : decode cX7_leastOf 8 = .ok (.iload_n 0, 1) := by decide +kernel
theorem dX7_leastOf_9 : decode cX7_leastOf 9 = .ok (.iload_n 1, 1) := by decide +kernel
theorem dX7_leastOf_10 : decode cX7_leastOf 10 = .ok (.ishr, 1) := by decide +kernel
theorem dX7_leastOf_11 : decode cX7_leastOf 11 = .ok (.iconst 1, 1) := by decide +kernel
theorem dX7_leastOf_12 : decode cX7_leastOf 12 = .ok (.iand, 1) := by decide +kernel
theorem dX7_leastOf_13 : decode cX7_leastOf 13 = .ok (.iconst 1, 1) := by decide +kernel
theorem dX7_leastOf_14 : decode cX7_leastOf 14 = .ok (.if_icmp .ne 5, 3) := by decide +kernel
theorem dX7_leastOf_17 : decode cX7_leastOf 17 = .ok (.iload_n 1, 1) := by decide +kernel
theorem dX7_leastOf_18 : decode cX7_leastOf 18 = .ok (.ireturn, 1) := by decide +kernel
theorem dX7_leastOf_19 : decode cX7_leastOf 19 = .ok (.iinc 1 1, 3) := by decide +kernel
theorem dX7_leastOf_22 : decode cX7_leastOf 22 = .ok (.goto (-20), 3) := by decide +kernel
theorem dX7_leastOf_25 : decode cX7_leastOf 25 = .ok (.iconst (-1), 1) := by decide +kernel
theorem dX7_leastOf_26 : decode cX7_leastOf 26 = .ok (.ireturn, 1) := by decide +kernel
theorem dJ6_bitCount_0f7a4_0 : decode cJ6_bitCount_0f7a4 0 = .ok (.iload_n 0, 1) := by decide +kernel
theorem dJ6_bitCount_0f7a4_1 : decode cJ6_bitCount_0f7a4 1 = .ok (.iload_n 0, 1) := by decide +kernel
theorem dJ6_bitCount_0f7a4_2 : decode cJ6_bitCount_0f7a4 2 = .ok (.iconst 1, 1) := by decide +kernel
theorem dJ6_bitCount_0f7a4_3 : decode cJ6_bitCount_0f7a4 3 = .ok (.iushr, 1) := by decide +kernel
theorem dJ6_bitCount_0f7a4_4 : decode cJ6_bitCount_0f7a4 4 = .ok (.ldc_w 265, 3) := by decide +kernel
theorem dJ6_bitCount_0f7a4_7 : decode cJ6_bitCount_0f7a4 7 = .ok (.iand, 1) := by decide +kernel
theorem dJ6_bitCount_0f7a4_8 : decode cJ6_bitCount_0f7a4 8 = .ok (.isub, 1) := by decide +kernel
theorem dJ6_bitCount_0f7a4_9 : decode cJ6_bitCount_0f7a4 9 = .ok (.istore_n 0, 1) := by decide +kernel
theorem dJ6_bitCount_0f7a4_10 : decode cJ6_bitCount_0f7a4 10 = .ok (.iload_n 0, 1) := by decide +kernel
theorem dJ6_bitCount_0f7a4_11 : decode cJ6_bitCount_0f7a4 11 = .ok (.ldc_w 266, 3) := by decide +kernel
theorem dJ6_bitCount_0f7a4_14 : decode cJ6_bitCount_0f7a4 14 = .ok (.iand, 1) := by decide +kernel
theorem dJ6_bitCount_0f7a4_15 : decode cJ6_bitCount_0f7a4 15 = .ok (.iload_n 0, 1) := by decide +kernel
theorem dJ6_bitCount_0f7a4_16 : decode cJ6_bitCount_0f7a4 16 = .ok (.iconst 2, 1) := by decide +kernel
theorem dJ6_bitCount_0f7a4_17 : decode cJ6_bitCount_0f7a4 17 = .ok (.iushr, 1) := by decide +kernel
theorem dJ6_bitCount_0f7a4_18 : decode cJ6_bitCount_0f7a4 18 = .ok (.ldc_w 266, 3) := by decide +kernel
theorem dJ6_bitCount_0f7a4_21 : decode cJ6_bitCount_0f7a4 21 = .ok (.iand, 1) := by decide +kernel
theorem dJ6_bitCount_0f7a4_22 : decode cJ6_bitCount_0f7a4 22 = .ok (.iadd, 1) := by decide +kernel
theorem dJ6_bitCount_0f7a4_23 : decode cJ6_bitCount_0f7a4 23 = .ok (.istore_n 0, 1) := by decide +kernel
theorem dJ6_bitCount_0f7a4_24 : decode cJ6_bitCount_0f7a4 24 = .ok (.iload_n 0, 1) := by decide +kernel
theorem dJ6_bitCount_0f7a4_25 : decode cJ6_bitCount_0f7a4 25 = .ok (.iload_n 0, 1) := by decide +kernel
theorem dJ6_bitCount_0f7a4_26 : decode cJ6_bitCount_0f7a4 26 = .ok (.iconst 4, 1) := by decide +kernel
theorem dJ6_bitCount_0f7a4_27 : decode cJ6_bitCount_0f7a4 27 = .ok (.iushr, 1) := by decide +kernel
theorem dJ6_bitCount_0f7a4_28 : decode cJ6_bitCount_0f7a4 28 = .ok (.iadd, 1) := by decide +kernel
theorem dJ6_bitCount_0f7a4_29 : decode cJ6_bitCount_0f7a4 29 = .ok (.ldc_w 267, 3) := by decide +kernel
theorem dJ6_bitCount_0f7a4_32 : decode cJ6_bitCount_0f7a4 32 = .ok (.iand, 1) := by decide +kernel
theorem dJ6_bitCount_0f7a4_33 : decode cJ6_bitCount_0f7a4 33 = .ok (.istore_n 0, 1) := by decide +kernel
theorem dJ6_bitCount_0f7a4_34 : decode cJ6_bitCount_0f7a4 34 = .ok (.iload_n 0, 1) := by decide +kernel
theorem dJ6_bitCount_0f7a4_35 : decode cJ6_bitCount_0f7a4 35 = .ok (.iload_n 0, 1) := by decide +kernel
theorem dJ6_bitCount_0f7a4_36 : decode cJ6_bitCount_0f7a4 36 = .ok (.bipush 8, 2) := by decide +kernel
theorem dJ6_bitCount_0f7a4_38 : decode cJ6_bitCount_0f7a4 38 = .ok (.iushr, 1) := by decide +kernel
theorem dJ6_bitCount_0f7a4_39 : decode cJ6_bitCount_0f7a4 39 = .ok (.iadd, 1) := by decide +kernel
theorem dJ6_bitCount_0f7a4_40 : decode cJ6_bitCount_0f7a4 40 = .ok (.istore_n 0, 1) := by decide +kernel
theorem dJ6_bitCount_0f7a4_41 : decode cJ6_bitCount_0f7a4 41 = .ok (.iload_n 0, 1) := by decide +kernel
theorem dJ6_bitCount_0f7a4_42 : decode cJ6_bitCount_0f7a4 42 = .ok (.iload_n 0, 1) := by decide +kernel
theorem dJ6_bitCount_0f7a4_43 : decode cJ6_bitCount_0f7a4 43 = .ok (.bipush 16, 2) := by decide +kernel
theorem dJ6_bitCount_0f7a4_45 : decode cJ6_bitCount_0f7a4 45 = .ok (.iushr, 1) := by decide +kernel
theorem dJ6_bitCount_0f7a4_46 : decode cJ6_bitCount_0f7a4 46 = .ok (.iadd, 1) := by decide +kernel
theorem dJ6_bitCount_0f7a4_47 : decode cJ6_bitCount_0f7a4 47 = .ok (.istore_n 0, 1) := by decide +kernel
theorem dJ6_bitCount_0f7a4_48 : decode cJ6_bitCount_0f7a4 48 = .ok (.iload_n 0, 1) := by decide +kernel
theorem dJ6_bitCount_0f7a4_49 : decode cJ6_bitCount_0f7a4 49 = .ok (.bipush 63, 2) := by decide +kernel
theorem dJ6_bitCount_0f7a4_51 : decode cJ6_bitCount_0f7a4 51 = .ok (.iand, 1) := by decide +kernel
theorem dJ6_bitCount_0f7a4_52 : decode cJ6_bitCount_0f7a4 52 = .ok (.ireturn, 1) := by decide +kernel
theorem dJ13_bitCount_95d88_0 : decode cJ13_bitCount_95d88 0 = .ok (.lload_n 0, 1) := by decide +kernel
theorem dJ13_bitCount_95d88_1 : decode cJ13_bitCount_95d88 1 = .ok (.lload_n 0, 1) := by decide +kernel
theorem dJ13_bitCount_95d88_2 : decode cJ13_bitCount_95d88 2 = .ok (.iconst 1, 1) := by decide +kernel
theorem dJ13_bitCount_95d88_3 : decode cJ13_bitCount_95d88 3 = .ok (.lushr, 1) := by decide +kernel
theorem dJ13_bitCount_95d88_4 : decode cJ13_bitCount_95d88 4 = .ok (.ldc2_w 314, 3) := by decide +kernel
theorem dJ13_bitCount_95d88_7 : decode cJ13_bitCount_95d88 7 = .ok (.land, 1) := by decide +kernel
theorem dJ13_bitCount_95d88_8 : decode cJ13_bitCount_95d88 8 = .ok (.lsub, 1) := by decide +kernel
theorem dJ13_bitCount_95d88_9 : decode cJ13_bitCount_95d88 9 = .ok (.lstore_n 0, 1) := by decide +kernel
theorem dJ13_bitCount_95d88_10 : decode cJ13_bitCount_95d88 10 = .ok (.lload_n 0, 1) := by decide +kernel
theorem dJ13_bitCount_95d88_11 : decode cJ13_bitCount_95d88 11 = .ok (.ldc2_w 316, 3) := by decide +kernel
theorem dJ13_bitCount_95d88_14 : decode cJ13_bitCount_95d88 14 = .ok (.land, 1) := by decide +kernel
theorem dJ13_bitCount_95d88_15 : decode cJ13_bitCount_95d88 15 = .ok (.lload_n 0, 1) := by decide +kernel
theorem dJ13_bitCount_95d88_16 : decode cJ13_bitCount_95d88 16 = .ok (.iconst 2, 1) := by decide +kernel
theorem dJ13_bitCount_95d88_17 : decode cJ13_bitCount_95d88 17 = .ok (.lushr, 1) := by decide +kernel
theorem dJ13_bitCount_95d88_18 : decode cJ13_bitCount_95d88 18 = .ok (.ldc2_w 316, 3) := by decide +kernel
theorem dJ13_bitCount_95d88_21 : decode cJ13_bitCount_95d88 21 = .ok (.land, 1) := by decide +kernel
theorem dJ13_bitCount_95d88_22 : decode cJ13_bitCount_95d88 22 = .ok (.ladd, 1) := by decide +kernel
theorem dJ13_bitCount_95d88_23 : decode cJ13_bitCount_95d88 23 = .ok (.lstore_n 0, 1) := by decide +kernel
theorem dJ13_bitCount_95d88_24 : decode cJ13_bitCount_95d88 24 = .ok (.lload_n 0, 1) := by decide +kernel
theorem dJ13_bitCount_95d88_25 : decode cJ13_bitCount_95d88 25 = .ok (.lload_n 0, 1) := by decide +kernel
theorem dJ13_bitCount_95d88_26 : decode cJ13_bitCount_95d88 26 = .ok (.iconst 4, 1) := by decide +kernel
theorem dJ13_bitCount_95d88_27 : decode cJ13_bitCount_95d88 27 = .ok (.lushr, 1) := by decide +kernel
theorem dJ13_bitCount_95d88_28 : decode cJ13_bitCount_95d88 28 = .ok (.ladd, 1) := by decide +kernel
theorem dJ13_bitCount_95d88_29 : decode cJ13_bitCount_95d88 29 = .ok (.ldc2_w 318, 3) := by decide +kernel
theorem dJ13_bitCount_95d88_32 : decode cJ13_bitCount_95d88 32 = .ok (.land, 1) := by decide +kernel
theorem dJ13_bitCount_95d88_33 : decode cJ13_bitCount_95d88 33 = .ok (.lstore_n 0, 1) := by decide +kernel
theorem dJ13_bitCount_95d88_34 : decode cJ13_bitCount_95d88 34 = .ok (.lload_n 0, 1) := by decide +kernel
theorem dJ13_bitCount_95d88_35 : decode cJ13_bitCount_95d88 35 = .ok (.lload_n 0, 1) := by decide +kernel
theorem dJ13_bitCount_95d88_36 : decode cJ13_bitCount_95d88 36 = .ok (.bipush 8, 2) := by decide +kernel
theorem dJ13_bitCount_95d88_38 : decode cJ13_bitCount_95d88 38 = .ok (.lushr, 1) := by decide +kernel
theorem dJ13_bitCount_95d88_39 : decode cJ13_bitCount_95d88 39 = .ok (.ladd, 1) := by decide +kernel
theorem dJ13_bitCount_95d88_40 : decode cJ13_bitCount_95d88 40 = .ok (.lstore_n 0, 1) := by decide +kernel
theorem dJ13_bitCount_95d88_41 : decode cJ13_bitCount_95d88 41 = .ok (.lload_n 0, 1) := by decide +kernel
theorem dJ13_bitCount_95d88_42 : decode cJ13_bitCount_95d88 42 = .ok (.lload_n 0, 1) := by decide +kernel
theorem dJ13_bitCount_95d88_43 : decode cJ13_bitCount_95d88 43 = .ok (.bipush 16, 2) := by decide +kernel
theorem dJ13_bitCount_95d88_45 : decode cJ13_bitCount_95d88 45 = .ok (.lushr, 1) := by decide +kernel
theorem dJ13_bitCount_95d88_46 : decode cJ13_bitCount_95d88 46 = .ok (.ladd, 1) := by decide +kernel
theorem dJ13_bitCount_95d88_47 : decode cJ13_bitCount_95d88 47 = .ok (.lstore_n 0, 1) := by decide +kernel
theorem dJ13_bitCount_95d88_48 : decode cJ13_bitCount_95d88 48 = .ok (.lload_n 0, 1) := by decide +kernel
theorem dJ13_bitCount_95d88_49 : decode cJ13_bitCount_95d88 49 = .ok (.lload_n 0, 1) := by decide +kernel
theorem dJ13_bitCount_95d88_50 : decode cJ13_bitCount_95d88 50 = .ok (.bipush 32, 2) := by decide +kernel
theorem dJ13_bitCount_95d88_52 : decode cJ13_bitCount_95d88 52 = .ok (.lushr, 1) := by decide +kernel
theorem dJ13_bitCount_95d88_53 : decode cJ13_bitCount_95d88 53 = .ok (.ladd, 1) := by decide +kernel
theorem dJ13_bitCount_95d88_54 : decode cJ13_bitCount_95d88 54 = .ok (.lstore_n 0, 1) := by decide +kernel
theorem dJ13_bitCount_95d88_55 : decode cJ13_bitCount_95d88 55 = .ok (.lload_n 0, 1) := by decide +kernel
theorem dJ13_bitCount_95d88_56 : decode cJ13_bitCount_95d88 56 = .ok (.l2i, 1) := by decide +kernel
theorem dJ13_bitCount_95d88_57 : decode cJ13_bitCount_95d88 57 = .ok (.bipush 127, 2) := by decide +kernel
theorem dJ13_bitCount_95d88_59 : decode cJ13_bitCount_95d88 59 = .ok (.iand, 1) := by decide +kernel
theorem dJ13_bitCount_95d88_60 : decode cJ13_bitCount_95d88 60 = .ok (.ireturn, 1) := by decide +kernel
theorem dJ0_length_8abf5_0 : decode cJ0_length_8abf5 0 = .ok (.aload_n 0, 1) := by decide +kernel
theorem dJ0_length_8abf5_1 : decode cJ0_length_8abf5 1 = .ok (.getfield 9, 3) := by decide +kernel
theorem dJ0_length_8abf5_4 : decode cJ0_length_8abf5 4 = .ok (.arraylength, 1) := by decide +kernel
theorem dJ0_length_8abf5_5 : decode cJ0_length_8abf5 5 = .ok (.aload_n 0, 1) := by decide +kernel
theorem dJ0_length_8abf5_6 : decode cJ0_length_8abf5 6 = .ok (.invokevirtual 335, 3) := by decide +kernel
theorem dJ0_length_8abf5_9 : decode cJ0_length_8abf5 9 = .ok (.ishr, 1) := by decide +kernel
theorem dJ0_length_8abf5_10 : decode cJ0_length_8abf5 10 = .ok (.ireturn, 1) := by decide +kernel
theorem dJ0_charAt_5068e_0 : decode cJ0_charAt_5068e 0 = .ok (.aload_n 0, 1) := by decide +kernel
theorem dJ0_charAt_5068e_1 : decode cJ0_charAt_5068e 1 = .ok (.invokevirtual 492, 3) := by decide +kernel
theorem dJ0_charAt_5068e_4 : decode cJ0_charAt_5068e 4 = .ok (.ifCond .eq 12, 3) := by decide +kernel
theorem dJ0_charAt_5068e_7 : decode cJ0_charAt_5068e 7 = .ok (.aload_n 0, 1) := by decide +kernel
theorem dJ0_charAt_5068e_8 : decode cJ0_charAt_5068e 8 = .ok (.getfield 9, 3) := by decide +kernel
theorem dJ0_charAt_5068e_11 : decode cJ0_charAt_5068e 11 = .ok (.iload_n 1, 1) := by decide +kernel
theorem dJ0_charAt_5068e_12 : decode cJ0_charAt_5068e 12 = .ok (.invokestatic 495, 3) := by decide +kernel
theorem dJ0_charAt_5068e_15 : decode cJ0_charAt_5068e 15 = .ok (.ireturn, 1) := by decide +kernel
theorem dJ0_charAt_5068e_16 : decode cJ0_charAt_5068e 16 = .ok (.aload_n 0, 1) := by decide +kernel
theorem dJ0_charAt_5068e_17 : decode cJ0_charAt_5068e 17 = .ok (.getfield 9, 3) := by decide +kernel
theorem dJ0_charAt_5068e_20 : decode cJ0_charAt_5068e 20 = .ok (.iload_n 1, 1) := by decide +kernel
theorem dJ0_indexOf_0f7a4_0 : decode cJ0_indexOf_0f7a4 0 = .ok (.aload_n 0, 1) := by decide +kernel
theorem dJ0_indexOf_0f7a4_1 : decode cJ0_indexOf_0f7a4 1 = .ok (.iload_n 1, 1) := by decide +kernel
theorem dJ0_indexOf_0f7a4_2 : decode cJ0_indexOf_0f7a4 2 = .ok (.iconst 0, 1) := by decide +kernel
theorem dJ0_indexOf_0f7a4_3 : decode cJ0_indexOf_0f7a4 3 = .ok (.invokevirtual 633, 3) := by decide +kernel
theorem dJ0_indexOf_0f7a4_6 : decode cJ0_indexOf_0f7a4 6 = .ok (.ireturn, 1) := by decide +kernel
theorem dJ0_indexOf_7cf53_0 : decode cJ0_indexOf_7cf53 0 = .ok (.aload_n 0, 1) := by decide +kernel
theorem dJ0_indexOf_7cf53_1 : decode cJ0_indexOf_7cf53 1 = .ok (.invokevirtual 492, 3) := by decide +kernel
theorem dJ0_indexOf_7cf53_4 : decode cJ0_indexOf_7cf53 4 = .ok (.ifCond .eq 19, 3) := by decide +kernel
theorem dJ0_indexOf_7cf53_7 : decode cJ0_indexOf_7cf53 7 = .ok (.aload_n 0, 1) := by decide +kernel
theorem dJ0_indexOf_7cf53_8 : decode cJ0_indexOf_7cf53 8 = .ok (.getfield 9, 3) := by decide +kernel
theorem dJ0_indexOf_7cf53_11 : decode cJ0_indexOf_7cf53 11 = .ok (.iload_n 1, 1) := by decide +kernel
theorem dJ0_indexOf_7cf53_12 : decode cJ0_indexOf_7cf53 12 = .ok (.iload_n 2, 1) := by decide +kernel
theorem dJ0_indexOf_7cf53_13 : decode cJ0_indexOf_7cf53 13 = .ok (.aload_n 0, 1) := by decide +kernel
theorem dJ0_indexOf_7cf53_14 : decode cJ0_indexOf_7cf53 14 = .ok (.invokevirtual 505, 3) := by decide +kernel
theorem dJ0_indexOf_7cf53_17 : decode cJ0_indexOf_7cf53 17 = .ok (.invokestatic 637, 3) := by decide +kernel
theorem dJ0_indexOf_7cf53_20 : decode cJ0_indexOf_7cf53 20 = .ok (.goto 16, 3) := by decide +kernel
theorem dJ0_indexOf_7cf53_23 : decode cJ0_indexOf_7cf53 23 = .ok (.aload_n 0, 1) := by decide +kernel
theorem dJ0_indexOf_7cf53_24 : decode cJ0_indexOf_7cf53 24 = .ok (.getfield 9, 3) := by decide +kernel
theorem dJ0_indexOf_7cf53_27 : decode cJ0_indexOf_7cf53 27 = .ok (.iload_n 1, 1) := by decide +kernel
theorem dJ0_indexOf_7cf53_28 : decode cJ0_indexOf_7cf53 28 = .ok (.iload_n 2, 1) := by decide +kernel
theorem dJ0_indexOf_7cf53_29 : decode cJ0_indexOf_7cf53 29 = .ok (.aload_n 0, 1) := by decide +kernel
theorem dJ0_indexOf_7cf53_30 : decode cJ0_indexOf_7cf53 30 = .ok (.invokevirtual 505, 3) := by decide +kernel
theorem dJ0_indexOf_7cf53_36 : decode cJ0_indexOf_7cf53 36 = .ok (.ireturn, 1) := by decide +kernel
theorem dJ0_coder_7d493_0 : decode cJ0_coder_7d493 0 = .ok (.getstatic 38, 3) := by decide +kernel
theorem dJ0_coder_7d493_3 : decode cJ0_coder_7d493 3 = .ok (.ifCond .eq 10, 3) := by decide +kernel
theorem dJ0_coder_7d493_6 : decode cJ0_coder_7d493 6 = .ok (.aload_n 0, 1) := by decide +kernel
theorem dJ0_coder_7d493_7 : decode cJ0_coder_7d493 7 = .ok (.getfield 15, 3) := by decide +kernel
theorem dJ0_coder_7d493_10 : decode cJ0_coder_7d493 10 = .ok (.goto 4, 3) := by decide +kernel
theorem dJ0_coder_7d493_13 : decode cJ0_coder_7d493 13 = .ok (.iconst 1, 1) := by decide +kernel
theorem dJ0_coder_7d493_14 : decode cJ0_coder_7d493 14 = .ok (.ireturn, 1) := by decide +kernel
theorem dJ0_isLatin1_aae02_0 : decode cJ0_isLatin1_aae02 0 = .ok (.getstatic 38, 3) := by decide +kernel
theorem dJ0_isLatin1_aae02_3 : decode cJ0_isLatin1_aae02 3 = .ok (.ifCond .eq 14, 3) := by decide +kernel
theorem dJ0_isLatin1_aae02_6 : decode cJ0_isLatin1_aae02 6 = .ok (.aload_n 0, 1) := by decide +kernel
theorem dJ0_isLatin1_aae02_7 : decode cJ0_isLatin1_aae02 7 = .ok (.getfield 15, 3) := by decide +kernel
theorem dJ0_isLatin1_aae02_10 : decode cJ0_isLatin1_aae02 10 = .ok (.ifCond .ne 7, 3) := by decide +kernel
theorem dJ0_isLatin1_aae02_13 : decode cJ0_isLatin1_aae02 13 = .ok (.iconst 1, 1) := by decide +kernel
theorem dJ0_isLatin1_aae02_14 : decode cJ0_isLatin1_aae02 14 = .ok (.goto 4, 3) := by decide +kernel
theorem dJ0_isLatin1_aae02_17 : decode cJ0_isLatin1_aae02 17 = .ok (.iconst 0, 1) := by decide +kernel
theorem dJ0_isLatin1_aae02_18 : decode cJ0_isLatin1_aae02 18 = .ok (.ireturn, 1) := by decide +kernel
theorem dJ1_charAt_3b067_0 : decode cJ1_charAt_3b067 0 = .ok (.iload_n 1, 1) := by decide +kernel
theorem dJ1_charAt_3b067_1 : decode cJ1_charAt_3b067 1 = .ok (.aload_n 0, 1) := by decide +kernel
theorem dJ1_charAt_3b067_2 : decode cJ1_charAt_3b067 2 = .ok (.arraylength, 1) := by decide +kernel
theorem dJ1_charAt_3b067_3 : decode cJ1_charAt_3b067 3 = .ok (.invokestatic 9, 3) := by decide +kernel
theorem dJ1_charAt_3b067_6 : decode cJ1_charAt_3b067 6 = .ok (.aload_n 0, 1) := by decide +kernel
theorem dJ1_charAt_3b067_7 : decode cJ1_charAt_3b067 7 = .ok (.iload_n 1, 1) := by decide +kernel
theorem dJ1_charAt_3b067_8 : decode cJ1_charAt_3b067 8 = .ok (.baload, 1) := by decide +kernel
theorem dJ1_charAt_3b067_9 : decode cJ1_charAt_3b067 9 = .ok (.sipush 255, 3) := by decide +kernel
theorem dJ1_charAt_3b067_12 : decode cJ1_charAt_3b067 12 = .ok (.iand, 1) := by decide +kernel
theorem dJ1_charAt_3b067_13 : decode cJ1_charAt_3b067 13 = .ok (.i2c, 1) := by decide +kernel
theorem dJ1_charAt_3b067_14 : decode cJ1_charAt_3b067 14 = .ok (.ireturn, 1) := by decide +kernel
theorem dJ1_canEncode_9a6ad_0 : decode cJ1_canEncode_9a6ad 0 = .ok (.iload_n 0, 1) := by decide +kernel
theorem dJ1_canEncode_9a6ad_1 : decode cJ1_canEncode_9a6ad 1 = .ok (.ifCond .lt 14, 3) := by decide +kernel
theorem dJ1_canEncode_9a6ad_4 : decode cJ1_canEncode_9a6ad 4 = .ok (.iload_n 0, 1) := by decide +kernel
theorem dJ1_canEncode_9a6ad_5 : decode cJ1_canEncode_9a6ad 5 = .ok (.sipush 255, 3) := by decide +kernel
theorem dJ1_canEncode_9a6ad_8 : decode cJ1_canEncode_9a6ad 8 = .ok (.if_icmp .gt 7, 3) := by decide +kernel
theorem dJ1_canEncode_9a6ad_11 : decode cJ1_canEncode_9a6ad 11 = .ok (.iconst 1, 1) := by decide +kernel
theorem dJ1_canEncode_9a6ad_12 : decode cJ1_canEncode_9a6ad 12 = .ok (.goto 4, 3) := by decide +kernel
theorem dJ1_canEncode_9a6ad_15 : decode cJ1_canEncode_9a6ad 15 = .ok (.iconst 0, 1) := by decide +kernel
theorem dJ1_canEncode_9a6ad_16 : decode cJ1_canEncode_9a6ad 16 = .ok (.ireturn, 1) := by decide +kernel
theorem dJ1_indexOf_4cfef_0 : decode cJ1_indexOf_4cfef 0 = .ok (.iload_n 1, 1) := by decide +kernel
theorem dJ1_indexOf_4cfef_1 : decode cJ1_indexOf_4cfef 1 = .ok (.invokestatic 88, 3) := by decide +kernel
theorem dJ1_indexOf_4cfef_4 : decode cJ1_indexOf_4cfef 4 = .ok (.ifCond .ne 5, 3) := by decide +kernel
theorem dJ1_indexOf_4cfef_7 : decode cJ1_indexOf_4cfef 7 = .ok (.iconst (-1), 1) := by decide +kernel
theorem dJ1_indexOf_4cfef_8 : decode cJ1_indexOf_4cfef 8 = .ok (.ireturn, 1) := by decide +kernel
theorem dJ1_indexOf_4cfef_9 : decode cJ1_indexOf_4cfef 9 = .ok (.iload_n 2, 1) := by decide +kernel
theorem dJ1_indexOf_4cfef_10 : decode cJ1_indexOf_4cfef 10 = .ok (.iconst 0, 1) := by decide +kernel
theorem dJ1_indexOf_4cfef_11 : decode cJ1_indexOf_4cfef 11 = .ok (.invokestatic 92, 3) := by decide +kernel
theorem dJ1_indexOf_4cfef_14 : decode cJ1_indexOf_4cfef 14 = .ok (.istore_n 2, 1) := by decide +kernel
theorem dJ1_indexOf_4cfef_15 : decode cJ1_indexOf_4cfef 15 = .ok (.iload_n 3, 1) := by decide +kernel
theorem dJ1_indexOf_4cfef_16 : decode cJ1_indexOf_4cfef 16 = .ok (.aload_n 0, 1) := by decide +kernel
theorem dJ1_indexOf_4cfef_17 : decode cJ1_indexOf_4cfef 17 = .ok (.arraylength, 1) := by decide +kernel
theorem dJ1_indexOf_4cfef_18 : decode cJ1_indexOf_4cfef 18 = .ok (.invokestatic 38, 3) := by decide +kernel
theorem dJ1_indexOf_4cfef_21 : decode cJ1_indexOf_4cfef 21 = .ok (.istore_n 3, 1) := by decide +kernel
theorem dJ1_indexOf_4cfef_22 : decode cJ1_indexOf_4cfef 22 = .ok (.iload_n 2, 1) := by decide +kernel
theorem dJ1_indexOf_4cfef_23 : decode cJ1_indexOf_4cfef 23 = .ok (.iload_n 3, 1) := by decide +kernel
theorem dJ1_indexOf_4cfef_24 : decode cJ1_indexOf_4cfef 24 = .ok (.if_icmp .lt 5, 3) := by decide +kernel
theorem dJ1_indexOf_4cfef_27 : decode cJ1_indexOf_4cfef 27 = .ok (.iconst (-1), 1) := by decide +kernel
theorem dJ1_indexOf_4cfef_28 : decode cJ1_indexOf_4cfef 28 = .ok (.ireturn, 1) := by decide +kernel
theorem dJ1_indexOf_4cfef_29 : decode cJ1_indexOf_4cfef 29 = .ok (.aload_n 0, 1) := by decide +kernel
theorem dJ1_indexOf_4cfef_30 : decode cJ1_indexOf_4cfef 30 = .ok (.iload_n 1, 1) := by decide +kernel
theorem dJ1_indexOf_4cfef_31 : decode cJ1_indexOf_4cfef 31 = .ok (.iload_n 2, 1) := by decide +kernel
theorem dJ1_indexOf_4cfef_32 : decode cJ1_indexOf_4cfef 32 = .ok (.iload_n 3, 1) := by decide +kernel
theorem dJ1_indexOf_4cfef_33 : decode cJ1_indexOf_4cfef 33 = .ok (.invokestatic 95, 3) := by decide +kernel
theorem dJ1_indexOf_4cfef_36 : decode cJ1_indexOf_4cfef 36 = .ok (.ireturn, 1) := by decide +kernel
theorem dJ1_indexOfChar_4cfef_0 : decode cJ1_indexOfChar_4cfef 0 = .ok (.iload_n 1, 1) := by decide +kernel
theorem dJ1_indexOfChar_4cfef_1 : decode cJ1_indexOfChar_4cfef 1 = .ok (.i2b, 1) := by decide +kernel
theorem dJ1_indexOfChar_4cfef_2 : decode cJ1_indexOfChar_4cfef 2 = .ok (.istore 4, 2) := by decide +kernel
theorem dJ1_indexOfChar_4cfef_4 : decode cJ1_indexOfChar_4cfef 4 = .ok (.iload_n 2, 1) := by decide +kernel
theorem dJ1_indexOfChar_4cfef_5 : decode cJ1_indexOfChar_4cfef 5 = .ok (.istore 5, 2) := by decide +kernel
theorem dJ1_indexOfChar_4cfef_7 : decode cJ1_indexOfChar_4cfef 7 = .ok (.iload 5, 2) := by decide +kernel
theorem dJ1_indexOfChar_4cfef_9 : decode cJ1_indexOfChar_4cfef 9 = .ok (.iload_n 3, 1) := by decide +kernel
theorem dJ1_indexOfChar_4cfef_10 : decode cJ1_indexOfChar_4cfef 10 = .ok (.if_icmp .ge 21, 3) := by decide +kernel
theorem dJ1_indexOfChar_4cfef_13 : decode cJ1_indexOfChar_4cfef 13 = .ok (.aload_n 0, 1) := by decide +kernel
theorem dJ1_indexOfChar_4cfef_14 : decode cJ1_indexOfChar_4cfef 14 = .ok (.iload 5, 2) := by decide +kernel
theorem dJ1_indexOfChar_4cfef_16 : decode cJ1_indexOfChar_4cfef 16 = .ok (.baload, 1) := by decide +kernel
theorem dJ1_indexOfChar_4cfef_17 : decode cJ1_indexOfChar_4cfef 17 = .ok (.iload 4, 2) := by decide +kernel
theorem dJ1_indexOfChar_4cfef_19 : decode cJ1_indexOfChar_4cfef 19 = .ok (.if_icmp .ne 6, 3) := by decide +kernel
theorem dJ1_indexOfChar_4cfef_22 : decode cJ1_indexOfChar_4cfef 22 = .ok (.iload 5, 2) := by decide +kernel
theorem dJ1_indexOfChar_4cfef_24 : decode cJ1_indexOfChar_4cfef 24 = .ok (.ireturn, 1) := by decide +kernel
theorem dJ1_indexOfChar_4cfef_25 : decode cJ1_indexOfChar_4cfef 25 = .ok (.iinc 5 1, 3) := by decide +kernel
theorem dJ1_indexOfChar_4cfef_28 : decode cJ1_indexOfChar_4cfef 28 = .ok (.goto (-21), 3) := by decide +kernel
theorem dJ1_indexOfChar_4cfef_31 : decode cJ1_indexOfChar_4cfef 31 = .ok (.iconst (-1), 1) := by decide +kernel
theorem dJ1_indexOfChar_4cfef_32 : decode cJ1_indexOfChar_4cfef 32 = .ok (.ireturn, 1) := by decide +kernel
theorem dJ7_fill_53178_0 : decode cJ7_fill_53178 0 = .ok (.iconst 0, 1) := by decide +kernel
theorem dJ7_fill_53178_1 : decode cJ7_fill_53178 1 = .ok (.istore_n 2, 1) := by decide +kernel
theorem dJ7_fill_53178_2 : decode cJ7_fill_53178 2 = .ok (.aload_n 0, 1) := by decide +kernel
theorem dJ7_fill_53178_3 : decode cJ7_fill_53178 3 = .ok (.arraylength, 1) := by decide +kernel
theorem dJ7_fill_53178_4 : decode cJ7_fill_53178 4 = .ok (.istore_n 3, 1) := by decide +kernel
theorem dJ7_fill_53178_5 : decode cJ7_fill_53178 5 = .ok (.iload_n 2, 1) := by decide +kernel
theorem dJ7_fill_53178_6 : decode cJ7_fill_53178 6 = .ok (.iload_n 3, 1) := by decide +kernel
theorem dJ7_fill_53178_7 : decode cJ7_fill_53178 7 = .ok (.if_icmp .ge 13, 3) := by decide +kernel
theorem dJ7_fill_53178_10 : decode cJ7_fill_53178 10 = .ok (.aload_n 0, 1) := by decide +kernel
theorem dJ7_fill_53178_11 : decode cJ7_fill_53178 11 = .ok (.iload_n 2, 1) := by decide +kernel
theorem dJ7_fill_53178_12 : decode cJ7_fill_53178 12 = .ok (.iload_n 1, 1) := by decide +kernel
theorem dJ7_fill_53178_13 : decode cJ7_fill_53178 13 = .ok (.iastore, 1) := by decide +kernel
theorem dJ7_fill_53178_14 : decode cJ7_fill_53178 14 = .ok (.iinc 2 1, 3) := by decide +kernel
theorem dJ7_fill_53178_17 : decode cJ7_fill_53178 17 = .ok (.goto (-12), 3) := by decide +kernel
theorem dJ7_fill_53178_20 : decode cJ7_fill_53178 20 = .ok (.return_, 1) := by decide +kernel
