theorem dX0_clear_0 : decode cX0_clear 0 = .ok (.aload_n 0, 1) := by decide +kernel
theorem dX0_clear_1 : decode cX0_clear 1 = .ok (.iconst 0, 1) := by decide +kernel
theorem dX0_clear_2 : decode cX0_clear 2 = .ok (.putfield 9, 3) := by decide +kernel
theorem dX0_clear_5 : decode cX0_clear 5 = .ok (.aload_n 0, 1) := by decide +kernel
theorem dX0_clear_6 : decode cX0_clear 6 = .ok (.iconst 0, 1) := by decide +kernel
theorem dX0_clear_7 : decode cX0_clear 7 = .ok (.putfield 15, 3) := by decide +kernel
theorem dX0_clear_10 : decode cX0_clear 10 = .ok (.aload_n 0, 1) := by decide +kernel
theorem dX0_clear_11 : decode cX0_clear 11 = .ok (.iconst 0, 1) := by decide +kernel
theorem dX0_clear_12 : decode cX0_clear 12 = .ok (.putfield 18, 3) := by decide +kernel
theorem dX0_clear_15 : decode cX0_clear 15 = .ok (.aload_n 0, 1) := by decide +kernel
theorem dX0_clear_16 : decode cX0_clear 16 = .ok (.iconst 0, 1) := by decide +kernel
theorem dX0_clear_17 : decode cX0_clear 17 = .ok (.putfield 21, 3) := by decide +kernel
theorem dX0_clear_20 : decode cX0_clear 20 = .ok (.aload_n 0, 1) := by decide +kernel
theorem dX0_clear_21 : decode cX0_clear 21 = .ok (.iconst 0, 1) := by decide +kernel
theorem dX0_clear_22 : decode cX0_clear 22 = .ok (.putfield 24, 3) := by decide +kernel
theorem dX0_clear_25 : decode cX0_clear 25 = .ok (.aload_n 0, 1) := by decide +kernel
theorem dX0_clear_26 : decode cX0_clear 26 = .ok (.getfield 27, 3) := by decide +kernel
theorem dX0_clear_29 : decode cX0_clear 29 = .ok (.iconst 3, 1) := by decide +kernel
theorem dX0_clear_30 : decode cX0_clear 30 = .ok (.invokestatic 66, 3) := by decide +kernel
theorem dX0_clear_33 : decode cX0_clear 33 = .ok (.aload_n 0, 1) := by decide +kernel
theorem dX0_clear_34 : decode cX0_clear 34 = .ok (.getfield 53, 3) := by decide +kernel
theorem dX0_clear_37 : decode cX0_clear 37 = .ok (.iconst 0, 1) := by decide +kernel
theorem dX0_clear_38 : decode cX0_clear 38 = .ok (.invokevirtual 72, 3) := by decide +kernel
theorem dX0_clear_41 : decode cX0_clear 41 = .ok (.aload_n 0, 1) := by decide +kernel
theorem dX0_clear_42 : decode cX0_clear 42 = .ok (.getfield 57, 3) := by decide +kernel
theorem dX0_clear_45 : decode cX0_clear 45 = .ok (.iconst 1, 1) := by decide +kernel
theorem dX0_clear_46 : decode cX0_clear 46 = .ok (.invokevirtual 72, 3) := by decide +kernel
theorem dX0_clear_49 : decode cX0_clear 49 = .ok (.aload_n 0, 1) := by decide +kernel
theorem dX0_clear_50 : decode cX0_clear 50 = .ok (.getfield 60, 3) := by decide +kernel
theorem dX0_clear_53 : decode cX0_clear 53 = .ok (.iconst 1, 1) := by decide +kernel
theorem dX0_clear_54 : decode cX0_clear 54 = .ok (.invokevirtual 72, 3) := by decide +kernel
theorem dX0_clear_57 : decode cX0_clear 57 = .ok (.return_, 1) := by decide +kernel
theorem dX0_isNamed_0 : decode cX0_isNamed 0 = .ok (.iconst 0, 1) := by decide +kernel
theorem dX0_isNamed_1 : decode cX0_isNamed 1 = .ok (.istore_n 3, 1) := by decide +kernel
theorem dX0_isNamed_2 : decode cX0_isNamed 2 = .ok (.iload_n 3, 1) := by decide +kernel
theorem dX0_isNamed_3 : decode cX0_isNamed 3 = .ok (.aload_n 0, 1) := by decide +kernel
theorem dX0_isNamed_4 : decode cX0_isNamed 4 = .ok (.getfield 18, 3) := by decide +kernel
theorem dX0_isNamed_7 : decode cX0_isNamed 7 = .ok (.if_icmp .ge 22, 3) := by decide +kernel
theorem dX0_isNamed_10 : decode cX0_isNamed 10 = .ok (.aload_n 0, 1) := by decide +kernel
theorem dX0_isNamed_11 : decode cX0_isNamed 11 = .ok (.getfield 34, 3) := by decide +kernel
theorem dX0_isNamed_14 : decode cX0_isNamed 14 = .ok (.iload_n 3, 1) := by decide +kernel
theorem dX0_isNamed_15 : decode cX0_isNamed 15 = .ok (.laload, 1) := by decide +kernel
theorem dX0_isNamed_16 : decode cX0_isNamed 16 = .ok (.lload_n 1, 1) := by decide +kernel
theorem dX0_isNamed_17 : decode cX0_isNamed 17 = .ok (.lcmp, 1) := by decide +kernel
theorem dX0_isNamed_18 : decode cX0_isNamed 18 = .ok (.ifCond .ne 5, 3) := by decide +kernel
theorem dX0_isNamed_21 : decode cX0_isNamed 21 = .ok (.iconst 1, 1) := by decide +kernel
theorem dX0_isNamed_22 : decode cX0_isNamed 22 = .ok (.ireturn, 1) := by decide +kernel
theorem dX0_isNamed_23 : decode cX0_isNamed 23 = .ok (.iinc 3 1, 3) := by decide +kernel
theorem dX0_isNamed_26 : decode cX0_isNamed 26 = .ok (.goto (-24), 3) := by decide +kernel
theorem dX0_isNamed_29 : decode cX0_isNamed 29 = .ok (.iconst 0, 1) := by decide +kernel
theorem dX0_isNamed_30 : decode cX0_isNamed 30 = .ok (.ireturn, 1) := by decide +kernel
theorem dX0_areBoatsAfloat_0 : decode cX0_areBoatsAfloat 0 = .ok (.iconst 0, 1) := by decide +kernel
theorem dX0_areBoatsAfloat_1 : decode cX0_areBoatsAfloat 1 = .ok (.istore_n 1, 1) := by decide +kernel
theorem dX0_areBoatsAfloat_2 : decode cX0_areBoatsAfloat 2 = .ok (.iload_n 1, 1) := by decide +kernel
theorem dX0_areBoatsAfloat_3 : decode cX0_areBoatsAfloat 3 = .ok (.aload_n 0, 1) := by decide +kernel
theorem dX0_areBoatsAfloat_4 : decode cX0_areBoatsAfloat 4 = .ok (.getfield 18, 3) := by decide +kernel
theorem dX0_areBoatsAfloat_7 : decode cX0_areBoatsAfloat 7 = .ok (.if_icmp .ge 44, 3) := by decide +kernel
theorem dX0_areBoatsAfloat_10 : decode cX0_areBoatsAfloat 10 = .ok (.aload_n 0, 1) := by decide +kernel
theorem dX0_areBoatsAfloat_11 : decode cX0_areBoatsAfloat 11 = .ok (.aload_n 0, 1) := by decide +kernel
theorem dX0_areBoatsAfloat_12 : decode cX0_areBoatsAfloat 12 = .ok (.getfield 38, 3) := by decide +kernel
theorem dX0_areBoatsAfloat_15 : decode cX0_areBoatsAfloat 15 = .ok (.iload_n 1, 1) := by decide +kernel
theorem dX0_areBoatsAfloat_16 : decode cX0_areBoatsAfloat 16 = .ok (.iaload, 1) := by decide +kernel
theorem dX0_areBoatsAfloat_17 : decode cX0_areBoatsAfloat 17 = .ok (.aload_n 0, 1) := by decide +kernel
theorem dX0_areBoatsAfloat_18 : decode cX0_areBoatsAfloat 18 = .ok (.getfield 41, 3) := by decide +kernel
theorem dX0_areBoatsAfloat_21 : decode cX0_areBoatsAfloat 21 = .ok (.iload_n 1, 1) := by decide +kernel
theorem dX0_areBoatsAfloat_22 : decode cX0_areBoatsAfloat 22 = .ok (.iaload, 1) := by decide +kernel
theorem dX0_areBoatsAfloat_23 : decode cX0_areBoatsAfloat 23 = .ok (.invokevirtual 76, 3) := by decide +kernel
theorem dX0_areBoatsAfloat_26 : decode cX0_areBoatsAfloat 26 = .ok (.ifCond .eq 17, 3) := by decide +kernel
theorem dX0_areBoatsAfloat_29 : decode cX0_areBoatsAfloat 29 = .ok (.aload_n 0, 1) := by decide +kernel
theorem dX0_areBoatsAfloat_30 : decode cX0_areBoatsAfloat 30 = .ok (.getfield 27, 3) := by decide +kernel
theorem dX0_areBoatsAfloat_33 : decode cX0_areBoatsAfloat 33 = .ok (.aload_n 0, 1) := by decide +kernel
theorem dX0_areBoatsAfloat_34 : decode cX0_areBoatsAfloat 34 = .ok (.iload_n 1, 1) := by decide +kernel
theorem dX0_areBoatsAfloat_35 : decode cX0_areBoatsAfloat 35 = .ok (.invokevirtual 80, 3) := by decide +kernel
theorem dX0_areBoatsAfloat_38 : decode cX0_areBoatsAfloat 38 = .ok (.iaload, 1) := by decide +kernel
theorem dX0_areBoatsAfloat_39 : decode cX0_areBoatsAfloat 39 = .ok (.iconst 1, 1) := by decide +kernel
theorem dX0_areBoatsAfloat_40 : decode cX0_areBoatsAfloat 40 = .ok (.if_icmp .ne 5, 3) := by decide +kernel
theorem dX0_areBoatsAfloat_43 : decode cX0_areBoatsAfloat 43 = .ok (.iconst 0, 1) := by decide +kernel
theorem dX0_areBoatsAfloat_44 : decode cX0_areBoatsAfloat 44 = .ok (.ireturn, 1) := by decide +kernel
theorem dX0_areBoatsAfloat_45 : decode cX0_areBoatsAfloat 45 = .ok (.iinc 1 1, 3) := by decide +kernel
theorem dX0_areBoatsAfloat_48 : decode cX0_areBoatsAfloat 48 = .ok (.goto (-46), 3) := by decide +kernel
theorem dX0_areBoatsAfloat_51 : decode cX0_areBoatsAfloat 51 = .ok (.iconst 1, 1) := by decide +kernel
theorem dX0_areBoatsAfloat_52 : decode cX0_areBoatsAfloat 52 = .ok (.ireturn, 1) := by decide +kernel
theorem dX0_startOf_0 : decode cX0_startOf 0 = .ok (.bipush 8, 2) := by decide +kernel
theorem dX0_startOf_2 : decode cX0_startOf 2 = .ok (.aload_n 0, 1) := by decide +kernel
theorem dX0_startOf_3 : decode cX0_startOf 3 = .ok (.getfield 41, 3) := by decide +kernel
theorem dX0_startOf_6 : decode cX0_startOf 6 = .ok (.iload_n 1, 1) := by decide +kernel
theorem dX0_startOf_7 : decode cX0_startOf 7 = .ok (.iaload, 1) := by decide +kernel
theorem dX0_startOf_8 : decode cX0_startOf 8 = .ok (.imul, 1) := by decide +kernel
theorem dX0_startOf_9 : decode cX0_startOf 9 = .ok (.aload_n 0, 1) := by decide +kernel
theorem dX0_startOf_10 : decode cX0_startOf 10 = .ok (.getfield 38, 3) := by decide +kernel
theorem dX0_startOf_13 : decode cX0_startOf 13 = .ok (.iload_n 1, 1) := by decide +kernel
theorem dX0_startOf_14 : decode cX0_startOf 14 = .ok (.iaload, 1) := by decide +kernel
theorem dX0_startOf_15 : decode cX0_startOf 15 = .ok (.iadd, 1) := by decide +kernel
theorem dX0_startOf_16 : decode cX0_startOf 16 = .ok (.ireturn, 1) := by decide +kernel
theorem dX0_isInside_0 : decode cX0_isInside 0 = .ok (.iload_n 1, 1) := by decide +kernel
theorem dX0_isInside_1 : decode cX0_isInside 1 = .ok (.ifCond .lt 27, 3) := by decide +kernel
theorem dX0_isInside_4 : decode cX0_isInside 4 = .ok (.iload_n 1, 1) := by decide +kernel
theorem dX0_isInside_5 : decode cX0_isInside 5 = .ok (.aload_n 0, 1) := by decide +kernel
theorem dX0_isInside_6 : decode cX0_isInside 6 = .ok (.getfield 9, 3) := by decide +kernel
theorem dX0_isInside_9 : decode cX0_isInside 9 = .ok (.if_icmp .ge 19, 3) := by decide +kernel
theorem dX0_isInside_12 : decode cX0_isInside 12 = .ok (.iload_n 2, 1) := by decide +kernel
theorem dX0_isInside_13 : decode cX0_isInside 13 = .ok (.ifCond .lt 15, 3) := by decide +kernel
theorem dX0_isInside_16 : decode cX0_isInside 16 = .ok (.iload_n 2, 1) := by decide +kernel
theorem dX0_isInside_17 : decode cX0_isInside 17 = .ok (.aload_n 0, 1) := by decide +kernel
theorem dX0_isInside_18 : decode cX0_isInside 18 = .ok (.getfield 15, 3) := by decide +kernel
theorem dX0_isInside_21 : decode cX0_isInside 21 = .ok (.if_icmp .ge 7, 3) := by decide +kernel
theorem dX0_isInside_24 : decode cX0_isInside 24 = .ok (.iconst 1, 1) := by decide +kernel
theorem dX0_isInside_25 : decode cX0_isInside 25 = .ok (.goto 4, 3) := by decide +kernel
theorem dX0_isInside_28 : decode cX0_isInside 28 = .ok (.iconst 0, 1) := by decide +kernel
theorem dX0_isInside_29 : decode cX0_isInside 29 = .ok (.ireturn, 1) := by decide +kernel
theorem dX0_allBoats_0 : decode cX0_allBoats 0 = .ok (.iconst 1, 1) := by decide +kernel
theorem dX0_allBoats_1 : decode cX0_allBoats 1 = .ok (.aload_n 0, 1) := by decide +kernel
theorem dX0_allBoats_2 : decode cX0_allBoats 2 = .ok (.getfield 18, 3) := by decide +kernel
theorem dX0_allBoats_5 : decode cX0_allBoats 5 = .ok (.ishl, 1) := by decide +kernel
theorem dX0_allBoats_6 : decode cX0_allBoats 6 = .ok (.iconst 1, 1) := by decide +kernel
theorem dX0_allBoats_7 : decode cX0_allBoats 7 = .ok (.isub, 1) := by decide +kernel
theorem dX0_allBoats_8 : decode cX0_allBoats 8 = .ok (.ireturn, 1) := by decide +kernel
theorem dX0_sailing_0 : decode cX0_sailing 0 = .ok (.aload_n 0, 1) := by decide +kernel
theorem dX0_sailing_1 : decode cX0_sailing 1 = .ok (.invokevirtual 84, 3) := by decide +kernel
theorem dX0_sailing_4 : decode cX0_sailing 4 = .ok (.aload_n 1, 1) := by decide +kernel
theorem dX0_sailing_5 : decode cX0_sailing 5 = .ok (.getfield 88, 3) := by decide +kernel
theorem dX0_sailing_8 : decode cX0_sailing 8 = .ok (.aload_n 1, 1) := by decide +kernel
theorem dX0_sailing_9 : decode cX0_sailing 9 = .ok (.getfield 93, 3) := by decide +kernel
theorem dX0_sailing_12 : decode cX0_sailing 12 = .ok (.ior, 1) := by decide +kernel
theorem dX0_sailing_13 : decode cX0_sailing 13 = .ok (.iconst (-1), 1) := by decide +kernel
theorem dX0_sailing_14 : decode cX0_sailing 14 = .ok (.ixor, 1) := by decide +kernel
theorem dX0_sailing_15 : decode cX0_sailing 15 = .ok (.iand, 1) := by decide +kernel
theorem dX0_sailing_16 : decode cX0_sailing 16 = .ok (.ireturn, 1) := by decide +kernel
theorem dX0_cellsOf_0 : decode cX0_cellsOf 0 = .ok (.lconst 0, 1) := by decide +kernel
theorem dX0_cellsOf_1 : decode cX0_cellsOf 1 = .ok (.lstore_n 2, 1) := by decide +kernel
theorem dX0_cellsOf_2 : decode cX0_cellsOf 2 = .ok (.iconst 0, 1) := by decide +kernel
theorem dX0_cellsOf_3 : decode cX0_cellsOf 3 = .ok (.istore 4, 2) := by decide +kernel
theorem dX0_cellsOf_5 : decode cX0_cellsOf 5 = .ok (.iload 4, 2) := by decide +kernel
theorem dX0_cellsOf_7 : decode cX0_cellsOf 7 = .ok (.bipush 40, 2) := by decide +kernel
theorem dX0_cellsOf_9 : decode cX0_cellsOf 9 = .ok (.if_icmp .ge 27, 3) := by decide +kernel
theorem dX0_cellsOf_12 : decode cX0_cellsOf 12 = .ok (.aload_n 0, 1) := by decide +kernel
theorem dX0_cellsOf_13 : decode cX0_cellsOf 13 = .ok (.getfield 27, 3) := by decide +kernel
theorem dX0_cellsOf_16 : decode cX0_cellsOf 16 = .ok (.iload 4, 2) := by decide +kernel
theorem dX0_cellsOf_18 : decode cX0_cellsOf 18 = .ok (.iaload, 1) := by decide +kernel
theorem dX0_cellsOf_19 : decode cX0_cellsOf 19 = .ok (.iload_n 1, 1) := by decide +kernel
theorem dX0_cellsOf_20 : decode cX0_cellsOf 20 = .ok (.if_icmp .ne 10, 3) := by decide +kernel
theorem dX0_cellsOf_23 : decode cX0_cellsOf 23 = .ok (.lload_n 2, 1) := by decide +kernel
theorem dX0_cellsOf_24 : decode cX0_cellsOf 24 = .ok (.lconst 1, 1) := by decide +kernel
theorem dX0_cellsOf_25 : decode cX0_cellsOf 25 = .ok (.iload 4, 2) := by decide +kernel
theorem dX0_cellsOf_27 : decode cX0_cellsOf 27 = .ok (.lshl, 1) := by decide +kernel
theorem dX0_cellsOf_28 : decode cX0_cellsOf 28 = .ok (.lor, 1) := by decide +kernel
theorem dX0_cellsOf_29 : decode cX0_cellsOf 29 = .ok (.lstore_n 2, 1) := by decide +kernel
theorem dX0_cellsOf_30 : decode cX0_cellsOf 30 = .ok (.iinc 4 1, 3) := by decide +kernel
theorem dX0_cellsOf_33 : decode cX0_cellsOf 33 = .ok (.goto (-28), 3) := by decide +kernel
theorem dX0_cellsOf_36 : decode cX0_cellsOf 36 = .ok (.lload_n 2, 1) := by decide +kernel
theorem dX0_cellsOf_37 : decode cX0_cellsOf 37 = .ok (.lreturn, 1) := by decide +kernel
theorem dX0_beside_0 : decode cX0_beside 0 = .ok (.iload_n 1, 1) := by decide +kernel
theorem dX0_beside_1 : decode cX0_beside 1 = .ok (.bipush 8, 2) := by decide +kernel
theorem dX0_beside_3 : decode cX0_beside 3 = .ok (.irem, 1) := by decide +kernel
theorem dX0_beside_4 : decode cX0_beside 4 = .ok (.istore_n 3, 1) := by decide +kernel
theorem dX0_beside_5 : decode cX0_beside 5 = .ok (.iload_n 1, 1) := by decide +kernel
theorem dX0_beside_6 : decode cX0_beside 6 = .ok (.bipush 8, 2) := by decide +kernel
theorem dX0_beside_8 : decode cX0_beside 8 = .ok (.idiv, 1) := by decide +kernel
theorem dX0_beside_9 : decode cX0_beside 9 = .ok (.istore 4, 2) := by decide +kernel
theorem dX0_beside_11 : decode cX0_beside 11 = .ok (.iload_n 2, 1) := by decide +kernel
theorem dX0_beside_12 : decode cX0_beside 12 = .ok (.tableswitch 56 1 4 #[32, 38, 44, 50], 32) := by decide +kernel
theorem dX0_beside_44 : decode cX0_beside 44 = .ok (.iinc 3 1, 3) := by decide +kernel
theorem dX0_beside_47 : decode cX0_beside 47 = .ok (.goto 21, 3) := by decide +kernel
theorem dX0_beside_50 : decode cX0_beside 50 = .ok (.iinc 4 1, 3) := by decide +kernel
theorem dX0_beside_53 : decode cX0_beside 53 = .ok (.goto 15, 3) := by decide +kernel
theorem dX0_beside_56 : decode cX0_beside 56 = .ok (.iinc 3 (-1), 3) := by decide +kernel
theorem dX0_beside_59 : decode cX0_beside 59 = .ok (.goto 9, 3) := by decide +kernel
theorem dX0_beside_62 : decode cX0_beside 62 = .ok (.iinc 4 (-1), 3) := by decide +kernel
theorem dX0_beside_65 : decode cX0_beside 65 = .ok (.goto 3, 3) := by decide +kernel
theorem dX0_beside_68 : decode cX0_beside 68 = .ok (.iload_n 3, 1) := by decide +kernel
theorem dX0_beside_69 : decode cX0_beside 69 = .ok (.ifCond .lt 29, 3) := by decide +kernel
theorem dX0_beside_72 : decode cX0_beside 72 = .ok (.iload_n 3, 1) := by decide +kernel
theorem dX0_beside_73 : decode cX0_beside 73 = .ok (.aload_n 0, 1) := by decide +kernel
theorem dX0_beside_74 : decode cX0_beside 74 = .ok (.getfield 9, 3) := by decide +kernel
theorem dX0_beside_77 : decode cX0_beside 77 = .ok (.if_icmp .ge 21, 3) := by decide +kernel
theorem dX0_beside_80 : decode cX0_beside 80 = .ok (.iload 4, 2) := by decide +kernel
theorem dX0_beside_82 : decode cX0_beside 82 = .ok (.ifCond .lt 16, 3) := by decide +kernel
theorem dX0_beside_85 : decode cX0_beside 85 = .ok (.iload 4, 2) := by decide +kernel
theorem dX0_beside_87 : decode cX0_beside 87 = .ok (.aload_n 0, 1) := by decide +kernel
theorem dX0_beside_88 : decode cX0_beside 88 = .ok (.getfield 15, 3) := by decide +kernel
theorem dX0_beside_91 : decode cX0_beside 91 = .ok (.if_icmp .ge 7, 3) := by decide +kernel
theorem dX0_beside_94 : decode cX0_beside 94 = .ok (.iconst 1, 1) := by decide +kernel
theorem dX0_beside_95 : decode cX0_beside 95 = .ok (.goto 4, 3) := by decide +kernel
theorem dX0_beside_98 : decode cX0_beside 98 = .ok (.iconst 0, 1) := by decide +kernel
theorem dX0_beside_99 : decode cX0_beside 99 = .ok (.istore 5, 2) := by decide +kernel
theorem dX0_beside_101 : decode cX0_beside 101 = .ok (.iload 5, 2) := by decide +kernel
theorem dX0_beside_103 : decode cX0_beside 103 = .ok (.ifCond .eq 13, 3) := by decide +kernel
theorem dX0_beside_106 : decode cX0_beside 106 = .ok (.bipush 8, 2) := by decide +kernel
theorem dX0_beside_108 : decode cX0_beside 108 = .ok (.iload 4, 2) := by decide +kernel
theorem dX0_beside_110 : decode cX0_beside 110 = .ok (.imul, 1) := by decide +kernel
theorem dX0_beside_111 : decode cX0_beside 111 = .ok (.iload_n 3, 1) := by decide +kernel
theorem dX0_beside_112 : decode cX0_beside 112 = .ok (.iadd, 1) := by decide +kernel
theorem dX0_beside_113 : decode cX0_beside 113 = .ok (.goto 4, 3) := by decide +kernel
theorem dX0_beside_116 : decode cX0_beside 116 = .ok (.iconst (-1), 1) := by decide +kernel
theorem dX0_beside_117 : decode cX0_beside 117 = .ok (.ireturn, 1) := by decide +kernel
theorem dX0_chart_0 : decode cX0_chart 0 = .ok (.iconst 0, 1) := by decide +kernel
theorem dX0_chart_1 : decode cX0_chart 1 = .ok (.istore_n 1, 1) := by decide +kernel
theorem dX0_chart_2 : decode cX0_chart 2 = .ok (.iload_n 1, 1) := by decide +kernel
theorem dX0_chart_3 : decode cX0_chart 3 = .ok (.bipush 40, 2) := by decide +kernel
theorem dX0_chart_5 : decode cX0_chart 5 = .ok (.if_icmp .ge 30, 3) := by decide +kernel
theorem dX0_chart_8 : decode cX0_chart 8 = .ok (.aload_n 0, 1) := by decide +kernel
theorem dX0_chart_9 : decode cX0_chart 9 = .ok (.getfield 31, 3) := by decide +kernel
theorem dX0_chart_12 : decode cX0_chart 12 = .ok (.iload_n 1, 1) := by decide +kernel
theorem dX0_chart_13 : decode cX0_chart 13 = .ok (.aload_n 0, 1) := by decide +kernel
theorem dX0_chart_14 : decode cX0_chart 14 = .ok (.getfield 27, 3) := by decide +kernel
theorem dX0_chart_17 : decode cX0_chart 17 = .ok (.iload_n 1, 1) := by decide +kernel
theorem dX0_chart_18 : decode cX0_chart 18 = .ok (.iaload, 1) := by decide +kernel
theorem dX0_chart_19 : decode cX0_chart 19 = .ok (.iconst 2, 1) := by decide +kernel
theorem dX0_chart_20 : decode cX0_chart 20 = .ok (.if_icmp .ne 7, 3) := by decide +kernel
theorem dX0_chart_23 : decode cX0_chart 23 = .ok (.iconst 0, 1) := by decide +kernel
theorem dX0_chart_24 : decode cX0_chart 24 = .ok (.goto 4, 3) := by decide +kernel
theorem dX0_chart_27 : decode cX0_chart 27 = .ok (.iconst (-1), 1) := by decide +kernel
theorem dX0_chart_28 : decode cX0_chart 28 = .ok (.iastore, 1) := by decide +kernel
theorem dX0_chart_29 : decode cX0_chart 29 = .ok (.iinc 1 1, 3) := by decide +kernel
theorem dX0_chart_32 : decode cX0_chart 32 = .ok (.goto (-30), 3) := by decide +kernel
theorem dX0_chart_35 : decode cX0_chart 35 = .ok (.iconst 1, 1) := by decide +kernel
theorem dX0_chart_36 : decode cX0_chart 36 = .ok (.istore_n 1, 1) := by decide +kernel
theorem dX0_chart_37 : decode cX0_chart 37 = .ok (.iconst 1, 1) := by decide +kernel
theorem dX0_chart_38 : decode cX0_chart 38 = .ok (.istore_n 2, 1) := by decide +kernel
theorem dX0_chart_39 : decode cX0_chart 39 = .ok (.iload_n 2, 1) := by decide +kernel
theorem dX0_chart_40 : decode cX0_chart 40 = .ok (.bipush 40, 2) := by decide +kernel
theorem dX0_chart_42 : decode cX0_chart 42 = .ok (.if_icmp .gt 69, 3) := by decide +kernel
theorem dX0_chart_45 : decode cX0_chart 45 = .ok (.iload_n 1, 1) := by decide +kernel
theorem dX0_chart_46 : decode cX0_chart 46 = .ok (.ifCond .eq 65, 3) := by decide +kernel
theorem dX0_chart_49 : decode cX0_chart 49 = .ok (.iconst 0, 1) := by decide +kernel
theorem dX0_chart_50 : decode cX0_chart 50 = .ok (.istore_n 1, 1) := by decide +kernel
theorem dX0_chart_51 : decode cX0_chart 51 = .ok (.iconst 0, 1) := by decide +kernel
theorem dX0_chart_52 : decode cX0_chart 52 = .ok (.istore_n 3, 1) := by decide +kernel
theorem dX0_chart_53 : decode cX0_chart 53 = .ok (.iload_n 3, 1) := by decide +kernel
theorem dX0_chart_54 : decode cX0_chart 54 = .ok (.bipush 40, 2) := by decide +kernel
theorem dX0_chart_56 : decode cX0_chart 56 = .ok (.if_icmp .ge 49, 3) := by decide +kernel
theorem dX0_chart_59 : decode cX0_chart 59 = .ok (.aload_n 0, 1) := by decide +kernel
theorem dX0_chart_60 : decode cX0_chart 60 = .ok (.getfield 27, 3) := by decide +kernel
theorem dX0_chart_63 : decode cX0_chart 63 = .ok (.iload_n 3, 1) := by decide +kernel
theorem dX0_chart_64 : decode cX0_chart 64 = .ok (.iaload, 1) := by decide +kernel
theorem dX0_chart_65 : decode cX0_chart 65 = .ok (.ifCond .ne 34, 3) := by decide +kernel
theorem dX0_chart_68 : decode cX0_chart 68 = .ok (.aload_n 0, 1) := by decide +kernel
theorem dX0_chart_69 : decode cX0_chart 69 = .ok (.getfield 31, 3) := by decide +kernel
theorem dX0_chart_72 : decode cX0_chart 72 = .ok (.iload_n 3, 1) := by decide +kernel
theorem dX0_chart_73 : decode cX0_chart 73 = .ok (.iaload, 1) := by decide +kernel
theorem dX0_chart_74 : decode cX0_chart 74 = .ok (.iconst (-1), 1) := by decide +kernel
theorem dX0_chart_75 : decode cX0_chart 75 = .ok (.if_icmp .ne 24, 3) := by decide +kernel
theorem dX0_chart_78 : decode cX0_chart 78 = .ok (.aload_n 0, 1) := by decide +kernel
theorem dX0_chart_79 : decode cX0_chart 79 = .ok (.iload_n 3, 1) := by decide +kernel
theorem dX0_chart_80 : decode cX0_chart 80 = .ok (.iload_n 2, 1) := by decide +kernel
theorem dX0_chart_81 : decode cX0_chart 81 = .ok (.iconst 1, 1) := by decide +kernel
theorem dX0_chart_82 : decode cX0_chart 82 = .ok (.isub, 1) := by decide +kernel
theorem dX0_chart_83 : decode cX0_chart 83 = .ok (.invokevirtual 96, 3) := by decide +kernel
theorem dX0_chart_86 : decode cX0_chart 86 = .ok (.iconst (-1), 1) := by decide +kernel
theorem dX0_chart_87 : decode cX0_chart 87 = .ok (.if_icmp .eq 12, 3) := by decide +kernel
theorem dX0_chart_90 : decode cX0_chart 90 = .ok (.aload_n 0, 1) := by decide +kernel
theorem dX0_chart_91 : decode cX0_chart 91 = .ok (.getfield 31, 3) := by decide +kernel
theorem dX0_chart_94 : decode cX0_chart 94 = .ok (.iload_n 3, 1) := by decide +kernel
theorem dX0_chart_95 : decode cX0_chart 95 = .ok (.iload_n 2, 1) := by decide +kernel
theorem dX0_chart_96 : decode cX0_chart 96 = .ok (.iastore, 1) := by decide +kernel
theorem dX0_chart_97 : decode cX0_chart 97 = .ok (.iconst 1, 1) := by decide +kernel
theorem dX0_chart_98 : decode cX0_chart 98 = .ok (.istore_n 1, 1) := by decide +kernel
theorem dX0_chart_99 : decode cX0_chart 99 = .ok (.iinc 3 1, 3) := by decide +kernel
theorem dX0_chart_102 : decode cX0_chart 102 = .ok (.goto (-49), 3) := by decide +kernel
theorem dX0_chart_105 : decode cX0_chart 105 = .ok (.iinc 2 1, 3) := by decide +kernel
theorem dX0_chart_108 : decode cX0_chart 108 = .ok (.goto (-69), 3) := by decide +kernel
theorem dX0_chart_111 : decode cX0_chart 111 = .ok (.return_, 1) := by decide +kernel
theorem dX0_wayNearer_0 : decode cX0_wayNearer 0 = .ok (.aload_n 0, 1) := by decide +kernel
theorem dX0_wayNearer_1 : decode cX0_wayNearer 1 = .ok (.iload_n 1, 1) := by decide +kernel
theorem dX0_wayNearer_2 : decode cX0_wayNearer 2 = .ok (.aload_n 0, 1) := by decide +kernel
theorem dX0_wayNearer_3 : decode cX0_wayNearer 3 = .ok (.getfield 31, 3) := by decide +kernel
theorem dX0_wayNearer_6 : decode cX0_wayNearer 6 = .ok (.iload_n 1, 1) := by decide +kernel
theorem dX0_wayNearer_7 : decode cX0_wayNearer 7 = .ok (.iaload, 1) := by decide +kernel
theorem dX0_wayNearer_8 : decode cX0_wayNearer 8 = .ok (.iconst 1, 1) := by decide +kernel
theorem dX0_wayNearer_9 : decode cX0_wayNearer 9 = .ok (.isub, 1) := by decide +kernel
theorem dX0_wayNearer_10 : decode cX0_wayNearer 10 = .ok (.invokevirtual 96, 3) := by decide +kernel
theorem dX0_wayNearer_13 : decode cX0_wayNearer 13 = .ok (.ireturn, 1) := by decide +kernel
theorem dX0_wayTo_0 : decode cX0_wayTo 0 = .ok (.iconst 1, 1) := by decide +kernel
theorem dX0_wayTo_1 : decode cX0_wayTo 1 = .ok (.istore_n 3, 1) := by decide +kernel
theorem dX0_wayTo_2 : decode cX0_wayTo 2 = .ok (.iload_n 3, 1) := by decide +kernel
theorem dX0_wayTo_3 : decode cX0_wayTo 3 = .ok (.iconst 5, 1) := by decide +kernel
theorem dX0_wayTo_4 : decode cX0_wayTo 4 = .ok (.if_icmp .ge 40, 3) := by decide +kernel
theorem dX0_wayTo_7 : decode cX0_wayTo 7 = .ok (.iload_n 2, 1) := by decide +kernel
theorem dX0_wayTo_8 : decode cX0_wayTo 8 = .ok (.ifCond .lt 36, 3) := by decide +kernel
theorem dX0_wayTo_11 : decode cX0_wayTo 11 = .ok (.aload_n 0, 1) := by decide +kernel
theorem dX0_wayTo_12 : decode cX0_wayTo 12 = .ok (.iload_n 1, 1) := by decide +kernel
theorem dX0_wayTo_13 : decode cX0_wayTo 13 = .ok (.iload_n 3, 1) := by decide +kernel
theorem dX0_wayTo_14 : decode cX0_wayTo 14 = .ok (.invokevirtual 100, 3) := by decide +kernel
theorem dX0_wayTo_17 : decode cX0_wayTo 17 = .ok (.istore 4, 2) := by decide +kernel
theorem dX0_wayTo_19 : decode cX0_wayTo 19 = .ok (.iload 4, 2) := by decide +kernel
theorem dX0_wayTo_21 : decode cX0_wayTo 21 = .ok (.iconst (-1), 1) := by decide +kernel
theorem dX0_wayTo_22 : decode cX0_wayTo 22 = .ok (.if_icmp .eq 16, 3) := by decide +kernel
theorem dX0_wayTo_25 : decode cX0_wayTo 25 = .ok (.aload_n 0, 1) := by decide +kernel
theorem dX0_wayTo_26 : decode cX0_wayTo 26 = .ok (.getfield 31, 3) := by decide +kernel
theorem dX0_wayTo_29 : decode cX0_wayTo 29 = .ok (.iload 4, 2) := by decide +kernel
theorem dX0_wayTo_31 : decode cX0_wayTo 31 = .ok (.iaload, 1) := by decide +kernel
theorem dX0_wayTo_32 : decode cX0_wayTo 32 = .ok (.iload_n 2, 1) := by decide +kernel
theorem dX0_wayTo_33 : decode cX0_wayTo 33 = .ok (.if_icmp .ne 5, 3) := by decide +kernel
theorem dX0_wayTo_36 : decode cX0_wayTo 36 = .ok (.iload_n 3, 1) := by decide +kernel
theorem dX0_wayTo_37 : decode cX0_wayTo 37 = .ok (.ireturn, 1) := by decide +kernel
theorem dX0_wayTo_38 : decode cX0_wayTo 38 = .ok (.iinc 3 1, 3) := by decide +kernel
theorem dX0_wayTo_41 : decode cX0_wayTo 41 = .ok (.goto (-39), 3) := by decide +kernel
theorem dX0_wayTo_44 : decode cX0_wayTo 44 = .ok (.iconst (-1), 1) := by decide +kernel
theorem dX0_wayTo_45 : decode cX0_wayTo 45 = .ok (.ireturn, 1) := by decide +kernel
theorem dX0_spread_0 : decode cX0_spread 0 = .ok (.lload_n 1, 1) := by decide +kernel
theorem dX0_spread_1 : decode cX0_spread 1 = .ok (.lstore_n 3, 1) := by decide +kernel
theorem dX0_spread_2 : decode cX0_spread 2 = .ok (.iconst 0, 1) := by decide +kernel
theorem dX0_spread_3 : decode cX0_spread 3 = .ok (.istore 5, 2) := by decide +kernel
theorem dX0_spread_5 : decode cX0_spread 5 = .ok (.iload 5, 2) := by decide +kernel
theorem dX0_spread_7 : decode cX0_spread 7 = .ok (.bipush 40, 2) := by decide +kernel
theorem dX0_spread_9 : decode cX0_spread 9 = .ok (.if_icmp .ge 69, 3) := by decide +kernel
theorem dX0_spread_12 : decode cX0_spread 12 = .ok (.iconst 1, 1) := by decide +kernel
theorem dX0_spread_13 : decode cX0_spread 13 = .ok (.istore 6, 2) := by decide +kernel
theorem dX0_spread_15 : decode cX0_spread 15 = .ok (.iload 6, 2) := by decide +kernel
theorem dX0_spread_17 : decode cX0_spread 17 = .ok (.iconst 5, 1) := by decide +kernel
theorem dX0_spread_18 : decode cX0_spread 18 = .ok (.if_icmp .ge 54, 3) := by decide +kernel
theorem dX0_spread_21 : decode cX0_spread 21 = .ok (.lload_n 1, 1) := by decide +kernel
theorem dX0_spread_22 : decode cX0_spread 22 = .ok (.iload 5, 2) := by decide +kernel
theorem dX0_spread_24 : decode cX0_spread 24 = .ok (.lshr, 1) := by decide +kernel
theorem dX0_spread_25 : decode cX0_spread 25 = .ok (.lconst 1, 1) := by decide +kernel
theorem dX0_spread_26 : decode cX0_spread 26 = .ok (.land, 1) := by decide +kernel
theorem dX0_spread_27 : decode cX0_spread 27 = .ok (.lconst 1, 1) := by decide +kernel
theorem dX0_spread_28 : decode cX0_spread 28 = .ok (.lcmp, 1) := by decide +kernel
theorem dX0_spread_29 : decode cX0_spread 29 = .ok (.ifCond .ne 43, 3) := by decide +kernel
theorem dX0_spread_32 : decode cX0_spread 32 = .ok (.aload_n 0, 1) := by decide +kernel
theorem dX0_spread_33 : decode cX0_spread 33 = .ok (.iload 5, 2) := by decide +kernel
theorem dX0_spread_35 : decode cX0_spread 35 = .ok (.iload 6, 2) := by decide +kernel
theorem dX0_spread_37 : decode cX0_spread 37 = .ok (.invokevirtual 100, 3) := by decide +kernel
theorem dX0_spread_40 : decode cX0_spread 40 = .ok (.istore 7, 2) := by decide +kernel
theorem dX0_spread_42 : decode cX0_spread 42 = .ok (.iload 7, 2) := by decide +kernel
theorem dX0_spread_44 : decode cX0_spread 44 = .ok (.iconst (-1), 1) := by decide +kernel
theorem dX0_spread_45 : decode cX0_spread 45 = .ok (.if_icmp .eq 21, 3) := by decide +kernel
theorem dX0_spread_48 : decode cX0_spread 48 = .ok (.aload_n 0, 1) := by decide +kernel
theorem dX0_spread_49 : decode cX0_spread 49 = .ok (.getfield 27, 3) := by decide +kernel
theorem dX0_spread_52 : decode cX0_spread 52 = .ok (.iload 7, 2) := by decide +kernel
theorem dX0_spread_54 : decode cX0_spread 54 = .ok (.iaload, 1) := by decide +kernel
theorem dX0_spread_55 : decode cX0_spread 55 = .ok (.iconst 1, 1) := by decide +kernel
theorem dX0_spread_56 : decode cX0_spread 56 = .ok (.if_icmp .eq 10, 3) := by decide +kernel
theorem dX0_spread_59 : decode cX0_spread 59 = .ok (.lload_n 3, 1) := by decide +kernel
theorem dX0_spread_60 : decode cX0_spread 60 = .ok (.lconst 1, 1) := by decide +kernel
theorem dX0_spread_61 : decode cX0_spread 61 = .ok (.iload 7, 2) := by decide +kernel
theorem dX0_spread_63 : decode cX0_spread 63 = .ok (.lshl, 1) := by decide +kernel
theorem dX0_spread_64 : decode cX0_spread 64 = .ok (.lor, 1) := by decide +kernel
theorem dX0_spread_65 : decode cX0_spread 65 = .ok (.lstore_n 3, 1) := by decide +kernel
theorem dX0_spread_66 : decode cX0_spread 66 = .ok (.iinc 6 1, 3) := by decide +kernel
theorem dX0_spread_69 : decode cX0_spread 69 = .ok (.goto (-54), 3) := by decide +kernel
theorem dX0_spread_72 : decode cX0_spread 72 = .ok (.iinc 5 1, 3) := by decide +kernel
theorem dX0_spread_75 : decode cX0_spread 75 = .ok (.goto (-70), 3) := by decide +kernel
theorem dX0_spread_78 : decode cX0_spread 78 = .ok (.lload_n 3, 1) := by decide +kernel
theorem dX0_spread_79 : decode cX0_spread 79 = .ok (.lreturn, 1) := by decide +kernel
theorem dX0_unsmelt_0 : decode cX0_unsmelt 0 = .ok (.aload_n 0, 1) := by decide +kernel
theorem dX0_unsmelt_1 : decode cX0_unsmelt 1 = .ok (.aload_n 1, 1) := by decide +kernel
theorem dX0_unsmelt_2 : decode cX0_unsmelt 2 = .ok (.getfield 103, 3) := by decide +kernel
theorem dX0_unsmelt_5 : decode cX0_unsmelt 5 = .ok (.invokevirtual 106, 3) := by decide +kernel
theorem dX0_unsmelt_8 : decode cX0_unsmelt 8 = .ok (.istore 5, 2) := by decide +kernel
theorem dX0_unsmelt_10 : decode cX0_unsmelt 10 = .ok (.lconst 0, 1) := by decide +kernel
theorem dX0_unsmelt_11 : decode cX0_unsmelt 11 = .ok (.lstore 6, 2) := by decide +kernel
theorem dX0_unsmelt_13 : decode cX0_unsmelt 13 = .ok (.iconst 0, 1) := by decide +kernel
theorem dX0_unsmelt_14 : decode cX0_unsmelt 14 = .ok (.istore 8, 2) := by decide +kernel
theorem dX0_unsmelt_16 : decode cX0_unsmelt 16 = .ok (.iload 8, 2) := by decide +kernel
theorem dX0_unsmelt_18 : decode cX0_unsmelt 18 = .ok (.aload_n 0, 1) := by decide +kernel
theorem dX0_unsmelt_19 : decode cX0_unsmelt 19 = .ok (.getfield 18, 3) := by decide +kernel
theorem dX0_unsmelt_22 : decode cX0_unsmelt 22 = .ok (.if_icmp .ge 32, 3) := by decide +kernel
theorem dX0_unsmelt_25 : decode cX0_unsmelt 25 = .ok (.aload_n 1, 1) := by decide +kernel
theorem dX0_unsmelt_26 : decode cX0_unsmelt 26 = .ok (.iload 8, 2) := by decide +kernel
theorem dX0_unsmelt_28 : decode cX0_unsmelt 28 = .ok (.invokevirtual 109, 3) := by decide +kernel
theorem dX0_unsmelt_31 : decode cX0_unsmelt 31 = .ok (.ifCond .eq 17, 3) := by decide +kernel
theorem dX0_unsmelt_34 : decode cX0_unsmelt 34 = .ok (.lload 6, 2) := by decide +kernel
theorem dX0_unsmelt_36 : decode cX0_unsmelt 36 = .ok (.lconst 1, 1) := by decide +kernel
theorem dX0_unsmelt_37 : decode cX0_unsmelt 37 = .ok (.aload_n 1, 1) := by decide +kernel
theorem dX0_unsmelt_38 : decode cX0_unsmelt 38 = .ok (.getfield 113, 3) := by decide +kernel
theorem dX0_unsmelt_41 : decode cX0_unsmelt 41 = .ok (.iload 8, 2) := by decide +kernel
theorem dX0_unsmelt_43 : decode cX0_unsmelt 43 = .ok (.iaload, 1) := by decide +kernel
theorem dX0_unsmelt_44 : decode cX0_unsmelt 44 = .ok (.lshl, 1) := by decide +kernel
theorem dX0_unsmelt_45 : decode cX0_unsmelt 45 = .ok (.lor, 1) := by decide +kernel
theorem dX0_unsmelt_46 : decode cX0_unsmelt 46 = .ok (.lstore 6, 2) := by decide +kernel
theorem dX0_unsmelt_48 : decode cX0_unsmelt 48 = .ok (.iinc 8 1, 3) := by decide +kernel
theorem dX0_unsmelt_51 : decode cX0_unsmelt 51 = .ok (.goto (-35), 3) := by decide +kernel
theorem dX0_unsmelt_54 : decode cX0_unsmelt 54 = .ok (.lconst 0, 1) := by decide +kernel
theorem dX0_unsmelt_55 : decode cX0_unsmelt 55 = .ok (.lstore 8, 2) := by decide +kernel
theorem dX0_unsmelt_57 : decode cX0_unsmelt 57 = .ok (.iconst 0, 1) := by decide +kernel
theorem dX0_unsmelt_58 : decode cX0_unsmelt 58 = .ok (.istore 10, 2) := by decide +kernel
theorem dX0_unsmelt_60 : decode cX0_unsmelt 60 = .ok (.iload 10, 2) := by decide +kernel
theorem dX0_unsmelt_62 : decode cX0_unsmelt 62 = .ok (.bipush 40, 2) := by decide +kernel
theorem dX0_unsmelt_64 : decode cX0_unsmelt 64 = .ok (.if_icmp .ge 47, 3) := by decide +kernel
theorem dX0_unsmelt_67 : decode cX0_unsmelt 67 = .ok (.lload_n 2, 1) := by decide +kernel
theorem dX0_unsmelt_68 : decode cX0_unsmelt 68 = .ok (.iload 10, 2) := by decide +kernel
theorem dX0_unsmelt_70 : decode cX0_unsmelt 70 = .ok (.lshr, 1) := by decide +kernel
theorem dX0_unsmelt_71 : decode cX0_unsmelt 71 = .ok (.lconst 1, 1) := by decide +kernel
theorem dX0_unsmelt_72 : decode cX0_unsmelt 72 = .ok (.land, 1) := by decide +kernel
theorem dX0_unsmelt_73 : decode cX0_unsmelt 73 = .ok (.lconst 1, 1) := by decide +kernel
theorem dX0_unsmelt_74 : decode cX0_unsmelt 74 = .ok (.lcmp, 1) := by decide +kernel
theorem dX0_unsmelt_75 : decode cX0_unsmelt 75 = .ok (.ifCond .ne 30, 3) := by decide +kernel
theorem dX0_unsmelt_78 : decode cX0_unsmelt 78 = .ok (.aload_n 0, 1) := by decide +kernel
theorem dX0_unsmelt_79 : decode cX0_unsmelt 79 = .ok (.iload 10, 2) := by decide +kernel
theorem dX0_unsmelt_81 : decode cX0_unsmelt 81 = .ok (.iload 4, 2) := by decide +kernel
theorem dX0_unsmelt_83 : decode cX0_unsmelt 83 = .ok (.iload 5, 2) := by decide +kernel
theorem dX0_unsmelt_85 : decode cX0_unsmelt 85 = .ok (.invokevirtual 116, 3) := by decide +kernel
theorem dX0_unsmelt_88 : decode cX0_unsmelt 88 = .ok (.lload 6, 2) := by decide +kernel
theorem dX0_unsmelt_90 : decode cX0_unsmelt 90 = .ok (.land, 1) := by decide +kernel
theorem dX0_unsmelt_91 : decode cX0_unsmelt 91 = .ok (.lconst 0, 1) := by decide +kernel
theorem dX0_unsmelt_92 : decode cX0_unsmelt 92 = .ok (.lcmp, 1) := by decide +kernel
theorem dX0_unsmelt_93 : decode cX0_unsmelt 93 = .ok (.ifCond .ne 12, 3) := by decide +kernel
theorem dX0_unsmelt_96 : decode cX0_unsmelt 96 = .ok (.lload 8, 2) := by decide +kernel
theorem dX0_unsmelt_98 : decode cX0_unsmelt 98 = .ok (.lconst 1, 1) := by decide +kernel
theorem dX0_unsmelt_99 : decode cX0_unsmelt 99 = .ok (.iload 10, 2) := by decide +kernel
theorem dX0_unsmelt_101 : decode cX0_unsmelt 101 = .ok (.lshl, 1) := by decide +kernel
theorem dX0_unsmelt_102 : decode cX0_unsmelt 102 = .ok (.lor, 1) := by decide +kernel
theorem dX0_unsmelt_103 : decode cX0_unsmelt 103 = .ok (.lstore 8, 2) := by decide +kernel
theorem dX0_unsmelt_105 : decode cX0_unsmelt 105 = .ok (.iinc 10 1, 3) := by decide +kernel
theorem dX0_unsmelt_108 : decode cX0_unsmelt 108 = .ok (.goto (-48), 3) := by decide +kernel
theorem dX0_unsmelt_111 : decode cX0_unsmelt 111 = .ok (.lload 8, 2) := by decide +kernel
theorem dX0_unsmelt_113 : decode cX0_unsmelt 113 = .ok (.lreturn, 1) := by decide +kernel
theorem dX0_plume_0 : decode cX0_plume 0 = .ok (.lconst 0, 1) := by decide +kernel
theorem dX0_plume_1 : decode cX0_plume 1 = .ok (.lstore 4, 2) := by decide +kernel
theorem dX0_plume_3 : decode cX0_plume 3 = .ok (.iload_n 1, 1) := by decide +kernel
theorem dX0_plume_4 : decode cX0_plume 4 = .ok (.istore 6, 2) := by decide +kernel
theorem dX0_plume_6 : decode cX0_plume 6 = .ok (.iconst 0, 1) := by decide +kernel
theorem dX0_plume_7 : decode cX0_plume 7 = .ok (.istore 7, 2) := by decide +kernel
theorem dX0_plume_9 : decode cX0_plume 9 = .ok (.iload 7, 2) := by decide +kernel
theorem dX0_plume_11 : decode cX0_plume 11 = .ok (.iload_n 2, 1) := by decide +kernel
theorem dX0_plume_12 : decode cX0_plume 12 = .ok (.if_icmp .gt 33, 3) := by decide +kernel
theorem dX0_plume_15 : decode cX0_plume 15 = .ok (.iload 6, 2) := by decide +kernel
theorem dX0_plume_17 : decode cX0_plume 17 = .ok (.iconst (-1), 1) := by decide +kernel
theorem dX0_plume_18 : decode cX0_plume 18 = .ok (.if_icmp .eq 27, 3) := by decide +kernel
theorem dX0_plume_21 : decode cX0_plume 21 = .ok (.lload 4, 2) := by decide +kernel
theorem dX0_plume_23 : decode cX0_plume 23 = .ok (.lconst 1, 1) := by decide +kernel
theorem dX0_plume_24 : decode cX0_plume 24 = .ok (.iload 6, 2) := by decide +kernel
theorem dX0_plume_26 : decode cX0_plume 26 = .ok (.lshl, 1) := by decide +kernel
theorem dX0_plume_27 : decode cX0_plume 27 = .ok (.lor, 1) := by decide +kernel
theorem dX0_plume_28 : decode cX0_plume 28 = .ok (.lstore 4, 2) := by decide +kernel
theorem dX0_plume_30 : decode cX0_plume 30 = .ok (.aload_n 0, 1) := by decide +kernel
theorem dX0_plume_31 : decode cX0_plume 31 = .ok (.iload 6, 2) := by decide +kernel
theorem dX0_plume_33 : decode cX0_plume 33 = .ok (.iload_n 3, 1) := by decide +kernel
theorem dX0_plume_34 : decode cX0_plume 34 = .ok (.invokevirtual 120, 3) := by decide +kernel
theorem dX0_plume_37 : decode cX0_plume 37 = .ok (.istore 6, 2) := by decide +kernel
theorem dX0_plume_39 : decode cX0_plume 39 = .ok (.iinc 7 1, 3) := by decide +kernel
theorem dX0_plume_42 : decode cX0_plume 42 = .ok (.goto (-33), 3) := by decide +kernel
theorem dX0_plume_45 : decode cX0_plume 45 = .ok (.lload 4, 2) := by decide +kernel
theorem dX0_plume_47 : decode cX0_plume 47 = .ok (.lreturn, 1) := by decide +kernel
theorem dX0_downwind_0 : decode cX0_downwind 0 = .ok (.aload_n 0, 1) := by decide +kernel
theorem dX0_downwind_1 : decode cX0_downwind 1 = .ok (.iload_n 1, 1) := by decide +kernel
theorem dX0_downwind_2 : decode cX0_downwind 2 = .ok (.iload_n 2, 1) := by decide +kernel
theorem dX0_downwind_3 : decode cX0_downwind 3 = .ok (.invokevirtual 100, 3) := by decide +kernel
theorem dX0_downwind_6 : decode cX0_downwind 6 = .ok (.istore_n 3, 1) := by decide +kernel
theorem dX0_downwind_7 : decode cX0_downwind 7 = .ok (.iload_n 3, 1) := by decide +kernel
theorem dX0_downwind_8 : decode cX0_downwind 8 = .ok (.iconst (-1), 1) := by decide +kernel
theorem dX0_downwind_9 : decode cX0_downwind 9 = .ok (.if_icmp .eq 17, 3) := by decide +kernel
theorem dX0_downwind_12 : decode cX0_downwind 12 = .ok (.aload_n 0, 1) := by decide +kernel
theorem dX0_downwind_13 : decode cX0_downwind 13 = .ok (.getfield 27, 3) := by decide +kernel
theorem dX0_downwind_16 : decode cX0_downwind 16 = .ok (.iload_n 3, 1) := by decide +kernel
theorem dX0_downwind_17 : decode cX0_downwind 17 = .ok (.iaload, 1) := by decide +kernel
theorem dX0_downwind_18 : decode cX0_downwind 18 = .ok (.iconst 1, 1) := by decide +kernel
theorem dX0_downwind_19 : decode cX0_downwind 19 = .ok (.if_icmp .ne 7, 3) := by decide +kernel
theorem dX0_downwind_22 : decode cX0_downwind 22 = .ok (.iconst (-1), 1) := by decide +kernel
theorem dX0_downwind_23 : decode cX0_downwind 23 = .ok (.goto 4, 3) := by decide +kernel
theorem dX0_downwind_26 : decode cX0_downwind 26 = .ok (.iload_n 3, 1) := by decide +kernel
theorem dX0_downwind_27 : decode cX0_downwind 27 = .ok (.ireturn, 1) := by decide +kernel
theorem dX0_windAt_0 : decode cX0_windAt 0 = .ok (.aload_n 0, 1) := by decide +kernel
theorem dX0_windAt_1 : decode cX0_windAt 1 = .ok (.getfield 53, 3) := by decide +kernel
theorem dX0_windAt_4 : decode cX0_windAt 4 = .ok (.getfield 123, 3) := by decide +kernel
theorem dX0_windAt_7 : decode cX0_windAt 7 = .ok (.iconst 0, 1) := by decide +kernel
theorem dX0_windAt_8 : decode cX0_windAt 8 = .ok (.iload_n 1, 1) := by decide +kernel
theorem dX0_windAt_9 : decode cX0_windAt 9 = .ok (.iastore, 1) := by decide +kernel
theorem dX0_windAt_10 : decode cX0_windAt 10 = .ok (.aload_n 0, 1) := by decide +kernel
theorem dX0_windAt_11 : decode cX0_windAt 11 = .ok (.getfield 53, 3) := by decide +kernel
theorem dX0_windAt_14 : decode cX0_windAt 14 = .ok (.invokevirtual 126, 3) := by decide +kernel
theorem dX0_windAt_17 : decode cX0_windAt 17 = .ok (.istore_n 2, 1) := by decide +kernel
theorem dX0_windAt_18 : decode cX0_windAt 18 = .ok (.iload_n 2, 1) := by decide +kernel
theorem dX0_windAt_19 : decode cX0_windAt 19 = .ok (.ifCond .ge 7, 3) := by decide +kernel
theorem dX0_windAt_22 : decode cX0_windAt 22 = .ok (.iconst 1, 1) := by decide +kernel
theorem dX0_windAt_23 : decode cX0_windAt 23 = .ok (.goto 8, 3) := by decide +kernel
theorem dX0_windAt_26 : decode cX0_windAt 26 = .ok (.iload_n 2, 1) := by decide +kernel
theorem dX0_windAt_27 : decode cX0_windAt 27 = .ok (.iconst 4, 1) := by decide +kernel
theorem dX0_windAt_28 : decode cX0_windAt 28 = .ok (.irem, 1) := by decide +kernel
theorem dX0_windAt_29 : decode cX0_windAt 29 = .ok (.iconst 1, 1) := by decide +kernel
theorem dX0_windAt_30 : decode cX0_windAt 30 = .ok (.iadd, 1) := by decide +kernel
theorem dX0_windAt_31 : decode cX0_windAt 31 = .ok (.ireturn, 1) := by decide +kernel
theorem dX0_hasCold_0 : decode cX0_hasCold 0 = .ok (.aload_n 0, 1) := by decide +kernel
theorem dX0_hasCold_1 : decode cX0_hasCold 1 = .ok (.getfield 21, 3) := by decide +kernel
theorem dX0_hasCold_4 : decode cX0_hasCold 4 = .ok (.ifCond .le 26, 3) := by decide +kernel
theorem dX0_hasCold_7 : decode cX0_hasCold 7 = .ok (.bipush 100, 2) := by decide +kernel
theorem dX0_hasCold_9 : decode cX0_hasCold 9 = .ok (.iload_n 3, 1) := by decide +kernel
theorem dX0_hasCold_10 : decode cX0_hasCold 10 = .ok (.bipush 16, 2) := by decide +kernel
theorem dX0_hasCold_12 : decode cX0_hasCold 12 = .ok (.iload_n 2, 1) := by decide +kernel
theorem dX0_hasCold_13 : decode cX0_hasCold 13 = .ok (.imul, 1) := by decide +kernel
theorem dX0_hasCold_14 : decode cX0_hasCold 14 = .ok (.iload_n 1, 1) := by decide +kernel
theorem dX0_hasCold_15 : decode cX0_hasCold 15 = .ok (.iadd, 1) := by decide +kernel
theorem dX0_hasCold_16 : decode cX0_hasCold 16 = .ok (.invokestatic 129, 3) := by decide +kernel
theorem dX0_hasCold_19 : decode cX0_hasCold 19 = .ok (.aload_n 0, 1) := by decide +kernel
theorem dX0_hasCold_20 : decode cX0_hasCold 20 = .ok (.getfield 21, 3) := by decide +kernel
theorem dX0_hasCold_23 : decode cX0_hasCold 23 = .ok (.if_icmp .ge 7, 3) := by decide +kernel
theorem dX0_hasCold_26 : decode cX0_hasCold 26 = .ok (.iconst 1, 1) := by decide +kernel
theorem dX0_hasCold_27 : decode cX0_hasCold 27 = .ok (.goto 4, 3) := by decide +kernel
theorem dX0_hasCold_30 : decode cX0_hasCold 30 = .ok (.iconst 0, 1) := by decide +kernel
theorem dX0_hasCold_31 : decode cX0_hasCold 31 = .ok (.ireturn, 1) := by decide +kernel
theorem dX0_lot_0 : decode cX0_lot 0 = .ok (.iload_n 1, 1) := by decide +kernel
theorem dX0_lot_1 : decode cX0_lot 1 = .ok (.istore_n 3, 1) := by decide +kernel
theorem dX0_lot_2 : decode cX0_lot 2 = .ok (.iconst 0, 1) := by decide +kernel
theorem dX0_lot_3 : decode cX0_lot 3 = .ok (.istore 4, 2) := by decide +kernel
theorem dX0_lot_5 : decode cX0_lot 5 = .ok (.iload 4, 2) := by decide +kernel
theorem dX0_lot_7 : decode cX0_lot 7 = .ok (.iconst 2, 1) := by decide +kernel
theorem dX0_lot_8 : decode cX0_lot 8 = .ok (.if_icmp .ge 37, 3) := by decide +kernel
theorem dX0_lot_11 : decode cX0_lot 11 = .ok (.iload_n 3, 1) := by decide +kernel
theorem dX0_lot_12 : decode cX0_lot 12 = .ok (.iload 4, 2) := by decide +kernel
theorem dX0_lot_14 : decode cX0_lot 14 = .ok (.ifCond .ne 8, 3) := by decide +kernel
theorem dX0_lot_17 : decode cX0_lot 17 = .ok (.bipush 69, 2) := by decide +kernel
theorem dX0_lot_19 : decode cX0_lot 19 = .ok (.goto 4, 3) := by decide +kernel
theorem dX0_lot_22 : decode cX0_lot 22 = .ok (.iload_n 2, 1) := by decide +kernel
theorem dX0_lot_23 : decode cX0_lot 23 = .ok (.ixor, 1) := by decide +kernel
theorem dX0_lot_24 : decode cX0_lot 24 = .ok (.ldc 133, 2) := by decide +kernel
theorem dX0_lot_26 : decode cX0_lot 26 = .ok (.imul, 1) := by decide +kernel
theorem dX0_lot_27 : decode cX0_lot 27 = .ok (.sipush 12345, 3) := by decide +kernel
theorem dX0_lot_30 : decode cX0_lot 30 = .ok (.iadd, 1) := by decide +kernel
theorem dX0_lot_31 : decode cX0_lot 31 = .ok (.istore_n 3, 1) := by decide +kernel
theorem dX0_lot_32 : decode cX0_lot 32 = .ok (.iload_n 3, 1) := by decide +kernel
theorem dX0_lot_33 : decode cX0_lot 33 = .ok (.iload_n 3, 1) := by decide +kernel
theorem dX0_lot_34 : decode cX0_lot 34 = .ok (.bipush 15, 2) := by decide +kernel
theorem dX0_lot_36 : decode cX0_lot 36 = .ok (.iushr, 1) := by decide +kernel
theorem dX0_lot_37 : decode cX0_lot 37 = .ok (.ixor, 1) := by decide +kernel
theorem dX0_lot_38 : decode cX0_lot 38 = .ok (.istore_n 3, 1) := by decide +kernel
theorem dX0_lot_39 : decode cX0_lot 39 = .ok (.iinc 4 1, 3) := by decide +kernel
theorem dX0_lot_42 : decode cX0_lot 42 = .ok (.goto (-37), 3) := by decide +kernel
theorem dX0_lot_45 : decode cX0_lot 45 = .ok (.iload_n 0, 1) := by decide +kernel
theorem dX0_lot_46 : decode cX0_lot 46 = .ok (.ifCond .gt 7, 3) := by decide +kernel
theorem dX0_lot_49 : decode cX0_lot 49 = .ok (.iconst 0, 1) := by decide +kernel
theorem dX0_lot_50 : decode cX0_lot 50 = .ok (.goto 8, 3) := by decide +kernel
theorem dX0_lot_53 : decode cX0_lot 53 = .ok (.iload_n 3, 1) := by decide +kernel
theorem dX0_lot_54 : decode cX0_lot 54 = .ok (.iconst 1, 1) := by decide +kernel
theorem dX0_lot_55 : decode cX0_lot 55 = .ok (.iushr, 1) := by decide +kernel
theorem dX0_lot_56 : decode cX0_lot 56 = .ok (.iload_n 0, 1) := by decide +kernel
theorem dX0_lot_57 : decode cX0_lot 57 = .ok (.irem, 1) := by decide +kernel
theorem dX0_lot_58 : decode cX0_lot 58 = .ok (.ireturn, 1) := by decide +kernel
theorem dX0_dishesSmelledBy_0 : decode cX0_dishesSmelledBy 0 = .ok (.aload_n 1, 1) := by decide +kernel
theorem dX0_dishesSmelledBy_1 : decode cX0_dishesSmelledBy 1 = .ok (.iload_n 2, 1) := by decide +kernel
theorem dX0_dishesSmelledBy_2 : decode cX0_dishesSmelledBy 2 = .ok (.invokevirtual 109, 3) := by decide +kernel
theorem dX0_dishesSmelledBy_5 : decode cX0_dishesSmelledBy 5 = .ok (.ifCond .eq 16, 3) := by decide +kernel
theorem dX0_dishesSmelledBy_8 : decode cX0_dishesSmelledBy 8 = .ok (.aload_n 0, 1) := by decide +kernel
theorem dX0_dishesSmelledBy_9 : decode cX0_dishesSmelledBy 9 = .ok (.iload_n 2, 1) := by decide +kernel
theorem dX0_dishesSmelledBy_10 : decode cX0_dishesSmelledBy 10 = .ok (.aload_n 1, 1) := by decide +kernel
theorem dX0_dishesSmelledBy_11 : decode cX0_dishesSmelledBy 11 = .ok (.getfield 103, 3) := by decide +kernel
theorem dX0_dishesSmelledBy_14 : decode cX0_dishesSmelledBy 14 = .ok (.iload_n 3, 1) := by decide +kernel
theorem dX0_dishesSmelledBy_15 : decode cX0_dishesSmelledBy 15 = .ok (.invokevirtual 134, 3) := by decide +kernel
theorem dX0_dishesSmelledBy_18 : decode cX0_dishesSmelledBy 18 = .ok (.ifCond .eq 5, 3) := by decide +kernel
theorem dX0_dishesSmelledBy_21 : decode cX0_dishesSmelledBy 21 = .ok (.iconst 0, 1) := by decide +kernel
theorem dX0_dishesSmelledBy_22 : decode cX0_dishesSmelledBy 22 = .ok (.ireturn, 1) := by decide +kernel
theorem dX0_dishesSmelledBy_23 : decode cX0_dishesSmelledBy 23 = .ok (.iconst 0, 1) := by decide +kernel
theorem dX0_dishesSmelledBy_24 : decode cX0_dishesSmelledBy 24 = .ok (.istore 4, 2) := by decide +kernel
theorem dX0_dishesSmelledBy_26 : decode cX0_dishesSmelledBy 26 = .ok (.iconst 0, 1) := by decide +kernel
theorem dX0_dishesSmelledBy_27 : decode cX0_dishesSmelledBy 27 = .ok (.istore 5, 2) := by decide +kernel
theorem dX0_dishesSmelledBy_29 : decode cX0_dishesSmelledBy 29 = .ok (.iload 5, 2) := by decide +kernel
theorem dX0_dishesSmelledBy_31 : decode cX0_dishesSmelledBy 31 = .ok (.aload_n 0, 1) := by decide +kernel
theorem dX0_dishesSmelledBy_32 : decode cX0_dishesSmelledBy 32 = .ok (.getfield 18, 3) := by decide +kernel
theorem dX0_dishesSmelledBy_35 : decode cX0_dishesSmelledBy 35 = .ok (.if_icmp .ge 79, 3) := by decide +kernel
theorem dX0_dishesSmelledBy_38 : decode cX0_dishesSmelledBy 38 = .ok (.bipush 40, 2) := by decide +kernel
theorem dX0_dishesSmelledBy_40 : decode cX0_dishesSmelledBy 40 = .ok (.iload 5, 2) := by decide +kernel
theorem dX0_dishesSmelledBy_42 : decode cX0_dishesSmelledBy 42 = .ok (.imul, 1) := by decide +kernel
theorem dX0_dishesSmelledBy_43 : decode cX0_dishesSmelledBy 43 = .ok (.aload_n 1, 1) := by decide +kernel
theorem dX0_dishesSmelledBy_44 : decode cX0_dishesSmelledBy 44 = .ok (.getfield 113, 3) := by decide +kernel
theorem dX0_dishesSmelledBy_47 : decode cX0_dishesSmelledBy 47 = .ok (.iload_n 2, 1) := by decide +kernel
theorem dX0_dishesSmelledBy_48 : decode cX0_dishesSmelledBy 48 = .ok (.iaload, 1) := by decide +kernel
theorem dX0_dishesSmelledBy_49 : decode cX0_dishesSmelledBy 49 = .ok (.iadd, 1) := by decide +kernel
theorem dX0_dishesSmelledBy_50 : decode cX0_dishesSmelledBy 50 = .ok (.istore 6, 2) := by decide +kernel
theorem dX0_dishesSmelledBy_52 : decode cX0_dishesSmelledBy 52 = .ok (.aload_n 1, 1) := by decide +kernel
theorem dX0_dishesSmelledBy_53 : decode cX0_dishesSmelledBy 53 = .ok (.getfield 103, 3) := by decide +kernel
theorem dX0_dishesSmelledBy_56 : decode cX0_dishesSmelledBy 56 = .ok (.aload_n 1, 1) := by decide +kernel
theorem dX0_dishesSmelledBy_57 : decode cX0_dishesSmelledBy 57 = .ok (.iload 6, 2) := by decide +kernel
theorem dX0_dishesSmelledBy_59 : decode cX0_dishesSmelledBy 59 = .ok (.invokevirtual 138, 3) := by decide +kernel
theorem dX0_dishesSmelledBy_62 : decode cX0_dishesSmelledBy 62 = .ok (.isub, 1) := by decide +kernel
theorem dX0_dishesSmelledBy_63 : decode cX0_dishesSmelledBy 63 = .ok (.aload_n 0, 1) := by decide +kernel
theorem dX0_dishesSmelledBy_64 : decode cX0_dishesSmelledBy 64 = .ok (.getfield 47, 3) := by decide +kernel
theorem dX0_dishesSmelledBy_67 : decode cX0_dishesSmelledBy 67 = .ok (.iload_n 2, 1) := by decide +kernel
theorem dX0_dishesSmelledBy_68 : decode cX0_dishesSmelledBy 68 = .ok (.iaload, 1) := by decide +kernel
theorem dX0_dishesSmelledBy_69 : decode cX0_dishesSmelledBy 69 = .ok (.if_icmp .gt 7, 3) := by decide +kernel
theorem dX0_dishesSmelledBy_72 : decode cX0_dishesSmelledBy 72 = .ok (.iconst 1, 1) := by decide +kernel
theorem dX0_dishesSmelledBy_73 : decode cX0_dishesSmelledBy 73 = .ok (.goto 4, 3) := by decide +kernel
theorem dX0_dishesSmelledBy_76 : decode cX0_dishesSmelledBy 76 = .ok (.iconst 0, 1) := by decide +kernel
theorem dX0_dishesSmelledBy_77 : decode cX0_dishesSmelledBy 77 = .ok (.istore 7, 2) := by decide +kernel
theorem dX0_dishesSmelledBy_79 : decode cX0_dishesSmelledBy 79 = .ok (.iload 5, 2) := by decide +kernel
theorem dX0_dishesSmelledBy_81 : decode cX0_dishesSmelledBy 81 = .ok (.iload_n 2, 1) := by decide +kernel
theorem dX0_dishesSmelledBy_82 : decode cX0_dishesSmelledBy 82 = .ok (.if_icmp .eq 26, 3) := by decide +kernel
theorem dX0_dishesSmelledBy_85 : decode cX0_dishesSmelledBy 85 = .ok (.aload_n 1, 1) := by decide +kernel
theorem dX0_dishesSmelledBy_86 : decode cX0_dishesSmelledBy 86 = .ok (.iload 6, 2) := by decide +kernel
theorem dX0_dishesSmelledBy_88 : decode cX0_dishesSmelledBy 88 = .ok (.invokevirtual 141, 3) := by decide +kernel
theorem dX0_dishesSmelledBy_91 : decode cX0_dishesSmelledBy 91 = .ok (.ifCond .eq 17, 3) := by decide +kernel
theorem dX0_dishesSmelledBy_94 : decode cX0_dishesSmelledBy 94 = .ok (.iload 7, 2) := by decide +kernel
theorem dX0_dishesSmelledBy_96 : decode cX0_dishesSmelledBy 96 = .ok (.ifCond .eq 12, 3) := by decide +kernel
theorem dX0_dishesSmelledBy_99 : decode cX0_dishesSmelledBy 99 = .ok (.iload 4, 2) := by decide +kernel
theorem dX0_dishesSmelledBy_101 : decode cX0_dishesSmelledBy 101 = .ok (.iconst 1, 1) := by decide +kernel
theorem dX0_dishesSmelledBy_102 : decode cX0_dishesSmelledBy 102 = .ok (.iload 5, 2) := by decide +kernel
theorem dX0_dishesSmelledBy_104 : decode cX0_dishesSmelledBy 104 = .ok (.ishl, 1) := by decide +kernel
theorem dX0_dishesSmelledBy_105 : decode cX0_dishesSmelledBy 105 = .ok (.ior, 1) := by decide +kernel
theorem dX0_dishesSmelledBy_106 : decode cX0_dishesSmelledBy 106 = .ok (.istore 4, 2) := by decide +kernel
theorem dX0_dishesSmelledBy_108 : decode cX0_dishesSmelledBy 108 = .ok (.iinc 5 1, 3) := by decide +kernel
theorem dX0_dishesSmelledBy_111 : decode cX0_dishesSmelledBy 111 = .ok (.goto (-82), 3) := by decide +kernel
theorem dX0_dishesSmelledBy_114 : decode cX0_dishesSmelledBy 114 = .ok (.iload 4, 2) := by decide +kernel
theorem dX0_dishesSmelledBy_116 : decode cX0_dishesSmelledBy 116 = .ok (.ireturn, 1) := by decide +kernel
theorem dX0_waterSmelling_0 : decode cX0_waterSmelling 0 = .ok (.lconst 0, 1) := by decide +kernel
theorem dX0_waterSmelling_1 : decode cX0_waterSmelling 1 = .ok (.lstore_n 3, 1) := by decide +kernel
theorem dX0_waterSmelling_2 : decode cX0_waterSmelling 2 = .ok (.iconst 0, 1) := by decide +kernel
theorem dX0_waterSmelling_3 : decode cX0_waterSmelling 3 = .ok (.istore 5, 2) := by decide +kernel
theorem dX0_waterSmelling_5 : decode cX0_waterSmelling 5 = .ok (.iload 5, 2) := by decide +kernel
theorem dX0_waterSmelling_7 : decode cX0_waterSmelling 7 = .ok (.bipush 40, 2) := by decide +kernel
theorem dX0_waterSmelling_9 : decode cX0_waterSmelling 9 = .ok (.if_icmp .ge 40, 3) := by decide +kernel
theorem dX0_waterSmelling_12 : decode cX0_waterSmelling 12 = .ok (.aload_n 0, 1) := by decide +kernel
theorem dX0_waterSmelling_13 : decode cX0_waterSmelling 13 = .ok (.getfield 27, 3) := by decide +kernel
theorem dX0_waterSmelling_16 : decode cX0_waterSmelling 16 = .ok (.iload 5, 2) := by decide +kernel
theorem dX0_waterSmelling_18 : decode cX0_waterSmelling 18 = .ok (.iaload, 1) := by decide +kernel
theorem dX0_waterSmelling_19 : decode cX0_waterSmelling 19 = .ok (.ifCond .ne 24, 3) := by decide +kernel
theorem dX0_waterSmelling_22 : decode cX0_waterSmelling 22 = .ok (.aload_n 1, 1) := by decide +kernel
theorem dX0_waterSmelling_23 : decode cX0_waterSmelling 23 = .ok (.bipush 40, 2) := by decide +kernel
theorem dX0_waterSmelling_25 : decode cX0_waterSmelling 25 = .ok (.iload_n 2, 1) := by decide +kernel
theorem dX0_waterSmelling_26 : decode cX0_waterSmelling 26 = .ok (.imul, 1) := by decide +kernel
theorem dX0_waterSmelling_27 : decode cX0_waterSmelling 27 = .ok (.iload 5, 2) := by decide +kernel
theorem dX0_waterSmelling_29 : decode cX0_waterSmelling 29 = .ok (.iadd, 1) := by decide +kernel
theorem dX0_waterSmelling_30 : decode cX0_waterSmelling 30 = .ok (.invokevirtual 141, 3) := by decide +kernel
theorem dX0_waterSmelling_33 : decode cX0_waterSmelling 33 = .ok (.ifCond .eq 10, 3) := by decide +kernel
theorem dX0_waterSmelling_36 : decode cX0_waterSmelling 36 = .ok (.lload_n 3, 1) := by decide +kernel
theorem dX0_waterSmelling_37 : decode cX0_waterSmelling 37 = .ok (.lconst 1, 1) := by decide +kernel
theorem dX0_waterSmelling_38 : decode cX0_waterSmelling 38 = .ok (.iload 5, 2) := by decide +kernel
theorem dX0_waterSmelling_40 : decode cX0_waterSmelling 40 = .ok (.lshl, 1) := by decide +kernel
theorem dX0_waterSmelling_41 : decode cX0_waterSmelling 41 = .ok (.lor, 1) := by decide +kernel
theorem dX0_waterSmelling_42 : decode cX0_waterSmelling 42 = .ok (.lstore_n 3, 1) := by decide +kernel
theorem dX0_waterSmelling_43 : decode cX0_waterSmelling 43 = .ok (.iinc 5 1, 3) := by decide +kernel
theorem dX0_waterSmelling_46 : decode cX0_waterSmelling 46 = .ok (.goto (-41), 3) := by decide +kernel
theorem dX0_waterSmelling_49 : decode cX0_waterSmelling 49 = .ok (.lload_n 3, 1) := by decide +kernel
theorem dX0_waterSmelling_50 : decode cX0_waterSmelling 50 = .ok (.lreturn, 1) := by decide +kernel
theorem dX0_layDishes_0 : decode cX0_layDishes 0 = .ok (.aload_n 0, 1) := by decide +kernel
theorem dX0_layDishes_1 : decode cX0_layDishes 1 = .ok (.aload_n 1, 1) := by decide +kernel
theorem dX0_layDishes_2 : decode cX0_layDishes 2 = .ok (.getfield 103, 3) := by decide +kernel
theorem dX0_layDishes_5 : decode cX0_layDishes 5 = .ok (.invokevirtual 106, 3) := by decide +kernel
theorem dX0_layDishes_8 : decode cX0_layDishes 8 = .ok (.istore_n 2, 1) := by decide +kernel
theorem dX0_layDishes_9 : decode cX0_layDishes 9 = .ok (.aload_n 0, 1) := by decide +kernel
theorem dX0_layDishes_10 : decode cX0_layDishes 10 = .ok (.aload_n 1, 1) := by decide +kernel
theorem dX0_layDishes_11 : decode cX0_layDishes 11 = .ok (.invokevirtual 144, 3) := by decide +kernel
theorem dX0_layDishes_14 : decode cX0_layDishes 14 = .ok (.aload_n 1, 1) := by decide +kernel
theorem dX0_layDishes_15 : decode cX0_layDishes 15 = .ok (.getfield 148, 3) := by decide +kernel
theorem dX0_layDishes_18 : decode cX0_layDishes 18 = .ok (.iand, 1) := by decide +kernel
theorem dX0_layDishes_19 : decode cX0_layDishes 19 = .ok (.istore_n 3, 1) := by decide +kernel
theorem dX0_layDishes_20 : decode cX0_layDishes 20 = .ok (.iconst 0, 1) := by decide +kernel
theorem dX0_layDishes_21 : decode cX0_layDishes 21 = .ok (.istore 4, 2) := by decide +kernel
theorem dX0_layDishes_23 : decode cX0_layDishes 23 = .ok (.iload 4, 2) := by decide +kernel
theorem dX0_layDishes_25 : decode cX0_layDishes 25 = .ok (.aload_n 0, 1) := by decide +kernel
theorem dX0_layDishes_26 : decode cX0_layDishes 26 = .ok (.getfield 18, 3) := by decide +kernel
theorem dX0_layDishes_29 : decode cX0_layDishes 29 = .ok (.if_icmp .ge 27, 3) := by decide +kernel
theorem dX0_layDishes_32 : decode cX0_layDishes 32 = .ok (.iload_n 3, 1) := by decide +kernel
theorem dX0_layDishes_33 : decode cX0_layDishes 33 = .ok (.iload 4, 2) := by decide +kernel
theorem dX0_layDishes_35 : decode cX0_layDishes 35 = .ok (.ishr, 1) := by decide +kernel
theorem dX0_layDishes_36 : decode cX0_layDishes 36 = .ok (.iconst 1, 1) := by decide +kernel
theorem dX0_layDishes_37 : decode cX0_layDishes 37 = .ok (.iand, 1) := by decide +kernel
theorem dX0_layDishes_38 : decode cX0_layDishes 38 = .ok (.iconst 1, 1) := by decide +kernel
theorem dX0_layDishes_39 : decode cX0_layDishes 39 = .ok (.if_icmp .ne 11, 3) := by decide +kernel
theorem dX0_layDishes_42 : decode cX0_layDishes 42 = .ok (.aload_n 0, 1) := by decide +kernel
theorem dX0_layDishes_43 : decode cX0_layDishes 43 = .ok (.aload_n 1, 1) := by decide +kernel
theorem dX0_layDishes_44 : decode cX0_layDishes 44 = .ok (.iload 4, 2) := by decide +kernel
theorem dX0_layDishes_46 : decode cX0_layDishes 46 = .ok (.iload_n 2, 1) := by decide +kernel
theorem dX0_layDishes_47 : decode cX0_layDishes 47 = .ok (.invokevirtual 151, 3) := by decide +kernel
theorem dX0_layDishes_50 : decode cX0_layDishes 50 = .ok (.iinc 4 1, 3) := by decide +kernel
theorem dX0_layDishes_53 : decode cX0_layDishes 53 = .ok (.goto (-30), 3) := by decide +kernel
theorem dX0_layDishes_56 : decode cX0_layDishes 56 = .ok (.return_, 1) := by decide +kernel
theorem dX0_layDish_0 : decode cX0_layDish 0 = .ok (.aload_n 0, 1) := by decide +kernel
theorem dX0_layDish_1 : decode cX0_layDish 1 = .ok (.getfield 60, 3) := by decide +kernel
theorem dX0_layDish_4 : decode cX0_layDish 4 = .ok (.getfield 123, 3) := by decide +kernel
theorem dX0_layDish_7 : decode cX0_layDish 7 = .ok (.iconst 0, 1) := by decide +kernel
theorem dX0_layDish_8 : decode cX0_layDish 8 = .ok (.aload_n 1, 1) := by decide +kernel
theorem dX0_layDish_9 : decode cX0_layDish 9 = .ok (.getfield 103, 3) := by decide +kernel
theorem dX0_layDish_12 : decode cX0_layDish 12 = .ok (.iastore, 1) := by decide +kernel
theorem dX0_layDish_13 : decode cX0_layDish 13 = .ok (.aload_n 0, 1) := by decide +kernel
theorem dX0_layDish_14 : decode cX0_layDish 14 = .ok (.getfield 60, 3) := by decide +kernel
theorem dX0_layDish_17 : decode cX0_layDish 17 = .ok (.getfield 123, 3) := by decide +kernel
theorem dX0_layDish_20 : decode cX0_layDish 20 = .ok (.bipush 7, 2) := by decide +kernel
theorem dX0_layDish_22 : decode cX0_layDish 22 = .ok (.aload_n 0, 1) := by decide +kernel
theorem dX0_layDish_23 : decode cX0_layDish 23 = .ok (.getfield 44, 3) := by decide +kernel
theorem dX0_layDish_26 : decode cX0_layDish 26 = .ok (.iload_n 2, 1) := by decide +kernel
theorem dX0_layDish_27 : decode cX0_layDish 27 = .ok (.iaload, 1) := by decide +kernel
theorem dX0_layDish_28 : decode cX0_layDish 28 = .ok (.iastore, 1) := by decide +kernel
theorem dX0_layDish_29 : decode cX0_layDish 29 = .ok (.aload_n 0, 1) := by decide +kernel
theorem dX0_layDish_30 : decode cX0_layDish 30 = .ok (.getfield 60, 3) := by decide +kernel
theorem dX0_layDish_33 : decode cX0_layDish 33 = .ok (.getfield 123, 3) := by decide +kernel
theorem dX0_layDish_36 : decode cX0_layDish 36 = .ok (.bipush 6, 2) := by decide +kernel
theorem dX0_layDish_38 : decode cX0_layDish 38 = .ok (.iload_n 2, 1) := by decide +kernel
theorem dX0_layDish_39 : decode cX0_layDish 39 = .ok (.iastore, 1) := by decide +kernel
theorem dX0_layDish_40 : decode cX0_layDish 40 = .ok (.aload_n 1, 1) := by decide +kernel
theorem dX0_layDish_41 : decode cX0_layDish 41 = .ok (.getfield 113, 3) := by decide +kernel
theorem dX0_layDish_44 : decode cX0_layDish 44 = .ok (.iload_n 2, 1) := by decide +kernel
theorem dX0_layDish_45 : decode cX0_layDish 45 = .ok (.iaload, 1) := by decide +kernel
theorem dX0_layDish_46 : decode cX0_layDish 46 = .ok (.istore 4, 2) := by decide +kernel
theorem dX0_layDish_48 : decode cX0_layDish 48 = .ok (.iconst 0, 1) := by decide +kernel
theorem dX0_layDish_49 : decode cX0_layDish 49 = .ok (.istore 5, 2) := by decide +kernel
theorem dX0_layDish_51 : decode cX0_layDish 51 = .ok (.iload 5, 2) := by decide +kernel
theorem dX0_layDish_53 : decode cX0_layDish 53 = .ok (.aload_n 0, 1) := by decide +kernel
theorem dX0_layDish_54 : decode cX0_layDish 54 = .ok (.getfield 44, 3) := by decide +kernel
theorem dX0_layDish_57 : decode cX0_layDish 57 = .ok (.iload_n 2, 1) := by decide +kernel
theorem dX0_layDish_58 : decode cX0_layDish 58 = .ok (.iaload, 1) := by decide +kernel
theorem dX0_layDish_59 : decode cX0_layDish 59 = .ok (.if_icmp .gt 79, 3) := by decide +kernel
theorem dX0_layDish_62 : decode cX0_layDish 62 = .ok (.iload 4, 2) := by decide +kernel
theorem dX0_layDish_64 : decode cX0_layDish 64 = .ok (.iconst (-1), 1) := by decide +kernel
theorem dX0_layDish_65 : decode cX0_layDish 65 = .ok (.if_icmp .eq 73, 3) := by decide +kernel
theorem dX0_layDish_68 : decode cX0_layDish 68 = .ok (.aload_n 0, 1) := by decide +kernel
theorem dX0_layDish_69 : decode cX0_layDish 69 = .ok (.getfield 60, 3) := by decide +kernel
theorem dX0_layDish_72 : decode cX0_layDish 72 = .ok (.getfield 123, 3) := by decide +kernel
theorem dX0_layDish_75 : decode cX0_layDish 75 = .ok (.iconst 1, 1) := by decide +kernel
theorem dX0_layDish_76 : decode cX0_layDish 76 = .ok (.iload 4, 2) := by decide +kernel
theorem dX0_layDish_78 : decode cX0_layDish 78 = .ok (.bipush 8, 2) := by decide +kernel
theorem dX0_layDish_80 : decode cX0_layDish 80 = .ok (.irem, 1) := by decide +kernel
theorem dX0_layDish_81 : decode cX0_layDish 81 = .ok (.iastore, 1) := by decide +kernel
theorem dX0_layDish_82 : decode cX0_layDish 82 = .ok (.aload_n 0, 1) := by decide +kernel
theorem dX0_layDish_83 : decode cX0_layDish 83 = .ok (.getfield 60, 3) := by decide +kernel
theorem dX0_layDish_86 : decode cX0_layDish 86 = .ok (.getfield 123, 3) := by decide +kernel
theorem dX0_layDish_89 : decode cX0_layDish 89 = .ok (.iconst 2, 1) := by decide +kernel
theorem dX0_layDish_90 : decode cX0_layDish 90 = .ok (.iload 4, 2) := by decide +kernel
theorem dX0_layDish_92 : decode cX0_layDish 92 = .ok (.bipush 8, 2) := by decide +kernel
theorem dX0_layDish_94 : decode cX0_layDish 94 = .ok (.idiv, 1) := by decide +kernel
theorem dX0_layDish_95 : decode cX0_layDish 95 = .ok (.iastore, 1) := by decide +kernel
theorem dX0_layDish_96 : decode cX0_layDish 96 = .ok (.aload_n 1, 1) := by decide +kernel
theorem dX0_layDish_97 : decode cX0_layDish 97 = .ok (.bipush 40, 2) := by decide +kernel
theorem dX0_layDish_99 : decode cX0_layDish 99 = .ok (.iload_n 2, 1) := by decide +kernel
theorem dX0_layDish_100 : decode cX0_layDish 100 = .ok (.imul, 1) := by decide +kernel
theorem dX0_layDish_101 : decode cX0_layDish 101 = .ok (.iload 4, 2) := by decide +kernel
theorem dX0_layDish_103 : decode cX0_layDish 103 = .ok (.iadd, 1) := by decide +kernel
theorem dX0_layDish_104 : decode cX0_layDish 104 = .ok (.iconst 0, 1) := by decide +kernel
theorem dX0_layDish_105 : decode cX0_layDish 105 = .ok (.bipush 9, 2) := by decide +kernel
theorem dX0_layDish_107 : decode cX0_layDish 107 = .ok (.aload_n 0, 1) := by decide +kernel
theorem dX0_layDish_108 : decode cX0_layDish 108 = .ok (.getfield 60, 3) := by decide +kernel
theorem dX0_layDish_111 : decode cX0_layDish 111 = .ok (.invokevirtual 126, 3) := by decide +kernel
theorem dX0_layDish_114 : decode cX0_layDish 114 = .ok (.invokestatic 155, 3) := by decide +kernel
theorem dX0_layDish_117 : decode cX0_layDish 117 = .ok (.invokestatic 160, 3) := by decide +kernel
theorem dX0_layDish_120 : decode cX0_layDish 120 = .ok (.invokevirtual 163, 3) := by decide +kernel
theorem dX0_layDish_123 : decode cX0_layDish 123 = .ok (.aload_n 0, 1) := by decide +kernel
theorem dX0_layDish_124 : decode cX0_layDish 124 = .ok (.iload 4, 2) := by decide +kernel
theorem dX0_layDish_126 : decode cX0_layDish 126 = .ok (.iload_n 3, 1) := by decide +kernel
theorem dX0_layDish_127 : decode cX0_layDish 127 = .ok (.invokevirtual 120, 3) := by decide +kernel
theorem dX0_layDish_130 : decode cX0_layDish 130 = .ok (.istore 4, 2) := by decide +kernel
theorem dX0_layDish_132 : decode cX0_layDish 132 = .ok (.iinc 5 1, 3) := by decide +kernel
theorem dX0_layDish_135 : decode cX0_layDish 135 = .ok (.goto (-84), 3) := by decide +kernel
theorem dX0_layDish_138 : decode cX0_layDish 138 = .ok (.return_, 1) := by decide +kernel
theorem dX0_begin_0 : decode cX0_begin 0 = .ok (.aload_n 1, 1) := by decide +kernel
theorem dX0_begin_1 : decode cX0_begin 1 = .ok (.invokevirtual 167, 3) := by decide +kernel
theorem dX0_begin_4 : decode cX0_begin 4 = .ok (.aload_n 1, 1) := by decide +kernel
theorem dX0_begin_5 : decode cX0_begin 5 = .ok (.aload_n 0, 1) := by decide +kernel
theorem dX0_begin_6 : decode cX0_begin 6 = .ok (.invokevirtual 84, 3) := by decide +kernel
theorem dX0_begin_9 : decode cX0_begin 9 = .ok (.putfield 148, 3) := by decide +kernel
theorem dX0_begin_12 : decode cX0_begin 12 = .ok (.iconst 0, 1) := by decide +kernel
theorem dX0_begin_13 : decode cX0_begin 13 = .ok (.istore_n 2, 1) := by decide +kernel
theorem dX0_begin_14 : decode cX0_begin 14 = .ok (.iload_n 2, 1) := by decide +kernel
theorem dX0_begin_15 : decode cX0_begin 15 = .ok (.aload_n 0, 1) := by decide +kernel
theorem dX0_begin_16 : decode cX0_begin 16 = .ok (.getfield 18, 3) := by decide +kernel
theorem dX0_begin_19 : decode cX0_begin 19 = .ok (.if_icmp .ge 39, 3) := by decide +kernel
theorem dX0_begin_22 : decode cX0_begin 22 = .ok (.aload_n 1, 1) := by decide +kernel
theorem dX0_begin_23 : decode cX0_begin 23 = .ok (.getfield 113, 3) := by decide +kernel
theorem dX0_begin_26 : decode cX0_begin 26 = .ok (.iload_n 2, 1) := by decide +kernel
theorem dX0_begin_27 : decode cX0_begin 27 = .ok (.aload_n 0, 1) := by decide +kernel
theorem dX0_begin_28 : decode cX0_begin 28 = .ok (.iload_n 2, 1) := by decide +kernel
theorem dX0_begin_29 : decode cX0_begin 29 = .ok (.invokevirtual 80, 3) := by decide +kernel
theorem dX0_begin_32 : decode cX0_begin 32 = .ok (.iastore, 1) := by decide +kernel
theorem dX0_begin_33 : decode cX0_begin 33 = .ok (.aload_n 0, 1) := by decide +kernel
theorem dX0_begin_34 : decode cX0_begin 34 = .ok (.getfield 27, 3) := by decide +kernel
theorem dX0_begin_37 : decode cX0_begin 37 = .ok (.aload_n 0, 1) := by decide +kernel
theorem dX0_begin_38 : decode cX0_begin 38 = .ok (.iload_n 2, 1) := by decide +kernel
theorem dX0_begin_39 : decode cX0_begin 39 = .ok (.invokevirtual 80, 3) := by decide +kernel
theorem dX0_begin_42 : decode cX0_begin 42 = .ok (.iaload, 1) := by decide +kernel
theorem dX0_begin_43 : decode cX0_begin 43 = .ok (.iconst 2, 1) := by decide +kernel
theorem dX0_begin_44 : decode cX0_begin 44 = .ok (.if_icmp .ne 8, 3) := by decide +kernel
theorem dX0_begin_47 : decode cX0_begin 47 = .ok (.aload_n 1, 1) := by decide +kernel
theorem dX0_begin_48 : decode cX0_begin 48 = .ok (.iload_n 2, 1) := by decide +kernel
theorem dX0_begin_49 : decode cX0_begin 49 = .ok (.invokevirtual 168, 3) := by decide +kernel
theorem dX0_begin_52 : decode cX0_begin 52 = .ok (.iinc 2 1, 3) := by decide +kernel
theorem dX0_begin_55 : decode cX0_begin 55 = .ok (.goto (-41), 3) := by decide +kernel
theorem dX0_begin_58 : decode cX0_begin 58 = .ok (.aload_n 0, 1) := by decide +kernel
theorem dX0_begin_59 : decode cX0_begin 59 = .ok (.aload_n 1, 1) := by decide +kernel
theorem dX0_begin_60 : decode cX0_begin 60 = .ok (.invokevirtual 171, 3) := by decide +kernel
theorem dX0_begin_63 : decode cX0_begin 63 = .ok (.return_, 1) := by decide +kernel
theorem dX0_passHours_0 : decode cX0_passHours 0 = .ok (.iconst 0, 1) := by decide +kernel
theorem dX0_passHours_1 : decode cX0_passHours 1 = .ok (.istore 4, 2) := by decide +kernel
theorem dX0_passHours_3 : decode cX0_passHours 3 = .ok (.iload 4, 2) := by decide +kernel
theorem dX0_passHours_5 : decode cX0_passHours 5 = .ok (.iload_n 2, 1) := by decide +kernel
theorem dX0_passHours_6 : decode cX0_passHours 6 = .ok (.if_icmp .ge 15, 3) := by decide +kernel
theorem dX0_passHours_9 : decode cX0_passHours 9 = .ok (.aload_n 0, 1) := by decide +kernel
theorem dX0_passHours_10 : decode cX0_passHours 10 = .ok (.aload_n 1, 1) := by decide +kernel
theorem dX0_passHours_11 : decode cX0_passHours 11 = .ok (.iload_n 3, 1) := by decide +kernel
theorem dX0_passHours_12 : decode cX0_passHours 12 = .ok (.invokevirtual 175, 3) := by decide +kernel
theorem dX0_passHours_15 : decode cX0_passHours 15 = .ok (.iinc 4 1, 3) := by decide +kernel
theorem dX0_passHours_18 : decode cX0_passHours 18 = .ok (.goto (-15), 3) := by decide +kernel
theorem dX0_passHours_21 : decode cX0_passHours 21 = .ok (.return_, 1) := by decide +kernel
theorem dX0_passHour_0 : decode cX0_passHour 0 = .ok (.aload_n 0, 1) := by decide +kernel
theorem dX0_passHour_1 : decode cX0_passHour 1 = .ok (.aload_n 1, 1) := by decide +kernel
theorem dX0_passHour_2 : decode cX0_passHour 2 = .ok (.invokevirtual 144, 3) := by decide +kernel
theorem dX0_passHour_5 : decode cX0_passHour 5 = .ok (.istore_n 3, 1) := by decide +kernel
theorem dX0_passHour_6 : decode cX0_passHour 6 = .ok (.aload_n 0, 1) := by decide +kernel
theorem dX0_passHour_7 : decode cX0_passHour 7 = .ok (.aload_n 1, 1) := by decide +kernel
theorem dX0_passHour_8 : decode cX0_passHour 8 = .ok (.getfield 103, 3) := by decide +kernel
theorem dX0_passHour_11 : decode cX0_passHour 11 = .ok (.invokevirtual 106, 3) := by decide +kernel
theorem dX0_passHour_14 : decode cX0_passHour 14 = .ok (.istore 4, 2) := by decide +kernel
theorem dX0_passHour_16 : decode cX0_passHour 16 = .ok (.iconst 0, 1) := by decide +kernel
theorem dX0_passHour_17 : decode cX0_passHour 17 = .ok (.istore 5, 2) := by decide +kernel
theorem dX0_passHour_19 : decode cX0_passHour 19 = .ok (.iconst 0, 1) := by decide +kernel
theorem dX0_passHour_20 : decode cX0_passHour 20 = .ok (.istore 6, 2) := by decide +kernel
theorem dX0_passHour_22 : decode cX0_passHour 22 = .ok (.iload 6, 2) := by decide +kernel
theorem dX0_passHour_24 : decode cX0_passHour 24 = .ok (.aload_n 0, 1) := by decide +kernel
theorem dX0_passHour_25 : decode cX0_passHour 25 = .ok (.getfield 18, 3) := by decide +kernel
theorem dX0_passHour_28 : decode cX0_passHour 28 = .ok (.if_icmp .ge 39, 3) := by decide +kernel
theorem dX0_passHour_31 : decode cX0_passHour 31 = .ok (.iload_n 3, 1) := by decide +kernel
theorem dX0_passHour_32 : decode cX0_passHour 32 = .ok (.iload 6, 2) := by decide +kernel
theorem dX0_passHour_34 : decode cX0_passHour 34 = .ok (.ishr, 1) := by decide +kernel
theorem dX0_passHour_35 : decode cX0_passHour 35 = .ok (.iconst 1, 1) := by decide +kernel
theorem dX0_passHour_36 : decode cX0_passHour 36 = .ok (.iand, 1) := by decide +kernel
theorem dX0_passHour_37 : decode cX0_passHour 37 = .ok (.iconst 1, 1) := by decide +kernel
theorem dX0_passHour_38 : decode cX0_passHour 38 = .ok (.if_icmp .ne 23, 3) := by decide +kernel
theorem dX0_passHour_41 : decode cX0_passHour 41 = .ok (.iload 5, 2) := by decide +kernel
theorem dX0_passHour_43 : decode cX0_passHour 43 = .ok (.aload_n 0, 1) := by decide +kernel
theorem dX0_passHour_44 : decode cX0_passHour 44 = .ok (.aload_n 1, 1) := by decide +kernel
theorem dX0_passHour_45 : decode cX0_passHour 45 = .ok (.iload 6, 2) := by decide +kernel
theorem dX0_passHour_47 : decode cX0_passHour 47 = .ok (.iload 4, 2) := by decide +kernel
theorem dX0_passHour_49 : decode cX0_passHour 49 = .ok (.iload_n 2, 1) := by decide +kernel
theorem dX0_passHour_50 : decode cX0_passHour 50 = .ok (.invokevirtual 179, 3) := by decide +kernel
theorem dX0_passHour_53 : decode cX0_passHour 53 = .ok (.iconst 3, 1) := by decide +kernel
theorem dX0_passHour_54 : decode cX0_passHour 54 = .ok (.iload 6, 2) := by decide +kernel
theorem dX0_passHour_56 : decode cX0_passHour 56 = .ok (.imul, 1) := by decide +kernel
theorem dX0_passHour_57 : decode cX0_passHour 57 = .ok (.ishl, 1) := by decide +kernel
theorem dX0_passHour_58 : decode cX0_passHour 58 = .ok (.ior, 1) := by decide +kernel
theorem dX0_passHour_59 : decode cX0_passHour 59 = .ok (.istore 5, 2) := by decide +kernel
theorem dX0_passHour_61 : decode cX0_passHour 61 = .ok (.iinc 6 1, 3) := by decide +kernel
theorem dX0_passHour_64 : decode cX0_passHour 64 = .ok (.goto (-42), 3) := by decide +kernel
theorem dX0_passHour_67 : decode cX0_passHour 67 = .ok (.iconst 0, 1) := by decide +kernel
theorem dX0_passHour_68 : decode cX0_passHour 68 = .ok (.istore 6, 2) := by decide +kernel
theorem dX0_passHour_70 : decode cX0_passHour 70 = .ok (.iload 6, 2) := by decide +kernel
theorem dX0_passHour_72 : decode cX0_passHour 72 = .ok (.aload_n 0, 1) := by decide +kernel
theorem dX0_passHour_73 : decode cX0_passHour 73 = .ok (.getfield 18, 3) := by decide +kernel
theorem dX0_passHour_76 : decode cX0_passHour 76 = .ok (.if_icmp .ge 37, 3) := by decide +kernel
theorem dX0_passHour_79 : decode cX0_passHour 79 = .ok (.iload_n 3, 1) := by decide +kernel
theorem dX0_passHour_80 : decode cX0_passHour 80 = .ok (.iload 6, 2) := by decide +kernel
theorem dX0_passHour_82 : decode cX0_passHour 82 = .ok (.ishr, 1) := by decide +kernel
theorem dX0_passHour_83 : decode cX0_passHour 83 = .ok (.iconst 1, 1) := by decide +kernel
theorem dX0_passHour_84 : decode cX0_passHour 84 = .ok (.iand, 1) := by decide +kernel
theorem dX0_passHour_85 : decode cX0_passHour 85 = .ok (.iconst 1, 1) := by decide +kernel
theorem dX0_passHour_86 : decode cX0_passHour 86 = .ok (.if_icmp .ne 21, 3) := by decide +kernel
theorem dX0_passHour_89 : decode cX0_passHour 89 = .ok (.aload_n 0, 1) := by decide +kernel
theorem dX0_passHour_90 : decode cX0_passHour 90 = .ok (.aload_n 1, 1) := by decide +kernel
theorem dX0_passHour_91 : decode cX0_passHour 91 = .ok (.iload 6, 2) := by decide +kernel
theorem dX0_passHour_93 : decode cX0_passHour 93 = .ok (.iload 5, 2) := by decide +kernel
theorem dX0_passHour_95 : decode cX0_passHour 95 = .ok (.iconst 3, 1) := by decide +kernel
theorem dX0_passHour_96 : decode cX0_passHour 96 = .ok (.iload 6, 2) := by decide +kernel
theorem dX0_passHour_98 : decode cX0_passHour 98 = .ok (.imul, 1) := by decide +kernel
theorem dX0_passHour_99 : decode cX0_passHour 99 = .ok (.ishr, 1) := by decide +kernel
theorem dX0_passHour_100 : decode cX0_passHour 100 = .ok (.bipush 7, 2) := by decide +kernel
theorem dX0_passHour_102 : decode cX0_passHour 102 = .ok (.iand, 1) := by decide +kernel
theorem dX0_passHour_103 : decode cX0_passHour 103 = .ok (.invokevirtual 183, 3) := by decide +kernel
theorem dX0_passHour_106 : decode cX0_passHour 106 = .ok (.pop, 1) := by decide +kernel
theorem dX0_passHour_107 : decode cX0_passHour 107 = .ok (.iinc 6 1, 3) := by decide +kernel
theorem dX0_passHour_110 : decode cX0_passHour 110 = .ok (.goto (-40), 3) := by decide +kernel
theorem dX0_passHour_113 : decode cX0_passHour 113 = .ok (.aload_n 1, 1) := by decide +kernel
theorem dX0_passHour_114 : decode cX0_passHour 114 = .ok (.dup, 1) := by decide +kernel
theorem dX0_passHour_115 : decode cX0_passHour 115 = .ok (.getfield 103, 3) := by decide +kernel
theorem dX0_passHour_118 : decode cX0_passHour 118 = .ok (.iconst 1, 1) := by decide +kernel
theorem dX0_passHour_119 : decode cX0_passHour 119 = .ok (.iadd, 1) := by decide +kernel
theorem dX0_passHour_120 : decode cX0_passHour 120 = .ok (.putfield 103, 3) := by decide +kernel
theorem dX0_passHour_123 : decode cX0_passHour 123 = .ok (.aload_n 0, 1) := by decide +kernel
theorem dX0_passHour_124 : decode cX0_passHour 124 = .ok (.aload_n 1, 1) := by decide +kernel
theorem dX0_passHour_125 : decode cX0_passHour 125 = .ok (.invokevirtual 171, 3) := by decide +kernel
theorem dX0_passHour_128 : decode cX0_passHour 128 = .ok (.return_, 1) := by decide +kernel
theorem dX0_wayOf_0 : decode cX0_wayOf 0 = .ok (.aload_n 0, 1) := by decide +kernel
theorem dX0_wayOf_1 : decode cX0_wayOf 1 = .ok (.aload_n 1, 1) := by decide +kernel
theorem dX0_wayOf_2 : decode cX0_wayOf 2 = .ok (.iload_n 2, 1) := by decide +kernel
theorem dX0_wayOf_3 : decode cX0_wayOf 3 = .ok (.iload 4, 2) := by decide +kernel
theorem dX0_wayOf_5 : decode cX0_wayOf 5 = .ok (.invokevirtual 187, 3) := by decide +kernel
theorem dX0_wayOf_8 : decode cX0_wayOf 8 = .ok (.istore 5, 2) := by decide +kernel
theorem dX0_wayOf_10 : decode cX0_wayOf 10 = .ok (.aload_n 0, 1) := by decide +kernel
theorem dX0_wayOf_11 : decode cX0_wayOf 11 = .ok (.getfield 57, 3) := by decide +kernel
theorem dX0_wayOf_14 : decode cX0_wayOf 14 = .ok (.getfield 123, 3) := by decide +kernel
theorem dX0_wayOf_17 : decode cX0_wayOf 17 = .ok (.astore 6, 2) := by decide +kernel
theorem dX0_wayOf_19 : decode cX0_wayOf 19 = .ok (.aload 6, 2) := by decide +kernel
theorem dX0_wayOf_21 : decode cX0_wayOf 21 = .ok (.iconst 0, 1) := by decide +kernel
theorem dX0_wayOf_22 : decode cX0_wayOf 22 = .ok (.aload_n 1, 1) := by decide +kernel
theorem dX0_wayOf_23 : decode cX0_wayOf 23 = .ok (.getfield 103, 3) := by decide +kernel
theorem dX0_wayOf_26 : decode cX0_wayOf 26 = .ok (.iastore, 1) := by decide +kernel
theorem dX0_wayOf_27 : decode cX0_wayOf 27 = .ok (.aload 6, 2) := by decide +kernel
theorem dX0_wayOf_29 : decode cX0_wayOf 29 = .ok (.iconst 1, 1) := by decide +kernel
theorem dX0_wayOf_30 : decode cX0_wayOf 30 = .ok (.aload_n 1, 1) := by decide +kernel
theorem dX0_wayOf_31 : decode cX0_wayOf 31 = .ok (.iload_n 2, 1) := by decide +kernel
theorem dX0_wayOf_32 : decode cX0_wayOf 32 = .ok (.invokevirtual 190, 3) := by decide +kernel
theorem dX0_wayOf_35 : decode cX0_wayOf 35 = .ok (.iastore, 1) := by decide +kernel
theorem dX0_wayOf_36 : decode cX0_wayOf 36 = .ok (.aload 6, 2) := by decide +kernel
theorem dX0_wayOf_38 : decode cX0_wayOf 38 = .ok (.iconst 2, 1) := by decide +kernel
theorem dX0_wayOf_39 : decode cX0_wayOf 39 = .ok (.aload_n 1, 1) := by decide +kernel
theorem dX0_wayOf_40 : decode cX0_wayOf 40 = .ok (.iload_n 2, 1) := by decide +kernel
theorem dX0_wayOf_41 : decode cX0_wayOf 41 = .ok (.invokevirtual 193, 3) := by decide +kernel
theorem dX0_wayOf_44 : decode cX0_wayOf 44 = .ok (.iastore, 1) := by decide +kernel
theorem dX0_wayOf_45 : decode cX0_wayOf 45 = .ok (.aload 6, 2) := by decide +kernel
theorem dX0_wayOf_47 : decode cX0_wayOf 47 = .ok (.iconst 3, 1) := by decide +kernel
theorem dX0_wayOf_48 : decode cX0_wayOf 48 = .ok (.iload_n 3, 1) := by decide +kernel
theorem dX0_wayOf_49 : decode cX0_wayOf 49 = .ok (.iastore, 1) := by decide +kernel
theorem dX0_wayOf_50 : decode cX0_wayOf 50 = .ok (.aload 6, 2) := by decide +kernel
theorem dX0_wayOf_52 : decode cX0_wayOf 52 = .ok (.iconst 4, 1) := by decide +kernel
theorem dX0_wayOf_53 : decode cX0_wayOf 53 = .ok (.iload 5, 2) := by decide +kernel
theorem dX0_wayOf_55 : decode cX0_wayOf 55 = .ok (.invokestatic 196, 3) := by decide +kernel
theorem dX0_wayOf_58 : decode cX0_wayOf 58 = .ok (.iastore, 1) := by decide +kernel
theorem dX0_wayOf_59 : decode cX0_wayOf 59 = .ok (.aload 6, 2) := by decide +kernel
theorem dX0_wayOf_61 : decode cX0_wayOf 61 = .ok (.iconst 5, 1) := by decide +kernel
theorem dX0_wayOf_62 : decode cX0_wayOf 62 = .ok (.iload 5, 2) := by decide +kernel
theorem dX0_wayOf_64 : decode cX0_wayOf 64 = .ok (.invokestatic 201, 3) := by decide +kernel
theorem dX0_wayOf_67 : decode cX0_wayOf 67 = .ok (.iastore, 1) := by decide +kernel
theorem dX0_wayOf_68 : decode cX0_wayOf 68 = .ok (.aload 6, 2) := by decide +kernel
theorem dX0_wayOf_70 : decode cX0_wayOf 70 = .ok (.bipush 6, 2) := by decide +kernel
theorem dX0_wayOf_72 : decode cX0_wayOf 72 = .ok (.iload_n 2, 1) := by decide +kernel
theorem dX0_wayOf_73 : decode cX0_wayOf 73 = .ok (.iastore, 1) := by decide +kernel
theorem dX0_wayOf_74 : decode cX0_wayOf 74 = .ok (.aload 6, 2) := by decide +kernel
theorem dX0_wayOf_76 : decode cX0_wayOf 76 = .ok (.bipush 7, 2) := by decide +kernel
theorem dX0_wayOf_78 : decode cX0_wayOf 78 = .ok (.aload_n 0, 1) := by decide +kernel
theorem dX0_wayOf_79 : decode cX0_wayOf 79 = .ok (.getfield 44, 3) := by decide +kernel
theorem dX0_wayOf_82 : decode cX0_wayOf 82 = .ok (.iload_n 2, 1) := by decide +kernel
theorem dX0_wayOf_83 : decode cX0_wayOf 83 = .ok (.iaload, 1) := by decide +kernel
theorem dX0_wayOf_84 : decode cX0_wayOf 84 = .ok (.iastore, 1) := by decide +kernel
theorem dX0_wayOf_85 : decode cX0_wayOf 85 = .ok (.aload 6, 2) := by decide +kernel
theorem dX0_wayOf_87 : decode cX0_wayOf 87 = .ok (.bipush 8, 2) := by decide +kernel
theorem dX0_wayOf_89 : decode cX0_wayOf 89 = .ok (.aload_n 1, 1) := by decide +kernel
theorem dX0_wayOf_90 : decode cX0_wayOf 90 = .ok (.getfield 93, 3) := by decide +kernel
theorem dX0_wayOf_93 : decode cX0_wayOf 93 = .ok (.invokestatic 196, 3) := by decide +kernel
theorem dX0_wayOf_96 : decode cX0_wayOf 96 = .ok (.iastore, 1) := by decide +kernel
theorem dX0_wayOf_97 : decode cX0_wayOf 97 = .ok (.aload_n 0, 1) := by decide +kernel
theorem dX0_wayOf_98 : decode cX0_wayOf 98 = .ok (.getfield 57, 3) := by decide +kernel
theorem dX0_wayOf_101 : decode cX0_wayOf 101 = .ok (.invokevirtual 126, 3) := by decide +kernel
theorem dX0_wayOf_104 : decode cX0_wayOf 104 = .ok (.istore 7, 2) := by decide +kernel
theorem dX0_wayOf_106 : decode cX0_wayOf 106 = .ok (.iload 7, 2) := by decide +kernel
theorem dX0_wayOf_108 : decode cX0_wayOf 108 = .ok (.ifCond .ge 7, 3) := by decide +kernel
theorem dX0_wayOf_111 : decode cX0_wayOf 111 = .ok (.iconst 0, 1) := by decide +kernel
theorem dX0_wayOf_112 : decode cX0_wayOf 112 = .ok (.goto 7, 3) := by decide +kernel
theorem dX0_wayOf_115 : decode cX0_wayOf 115 = .ok (.iload 7, 2) := by decide +kernel
theorem dX0_wayOf_117 : decode cX0_wayOf 117 = .ok (.iconst 5, 1) := by decide +kernel
theorem dX0_wayOf_118 : decode cX0_wayOf 118 = .ok (.irem, 1) := by decide +kernel
theorem dX0_wayOf_119 : decode cX0_wayOf 119 = .ok (.ireturn, 1) := by decide +kernel
theorem dX0_move_0 : decode cX0_move 0 = .ok (.aload_n 0, 1) := by decide +kernel
theorem dX0_move_1 : decode cX0_move 1 = .ok (.aload_n 1, 1) := by decide +kernel
theorem dX0_move_2 : decode cX0_move 2 = .ok (.getfield 113, 3) := by decide +kernel
theorem dX0_move_5 : decode cX0_move 5 = .ok (.iload_n 2, 1) := by decide +kernel
theorem dX0_move_6 : decode cX0_move 6 = .ok (.iaload, 1) := by decide +kernel
theorem dX0_move_7 : decode cX0_move 7 = .ok (.iload_n 3, 1) := by decide +kernel
theorem dX0_move_8 : decode cX0_move 8 = .ok (.invokevirtual 100, 3) := by decide +kernel
theorem dX0_move_11 : decode cX0_move 11 = .ok (.istore 4, 2) := by decide +kernel
theorem dX0_move_13 : decode cX0_move 13 = .ok (.iload 4, 2) := by decide +kernel
theorem dX0_move_15 : decode cX0_move 15 = .ok (.iconst (-1), 1) := by decide +kernel
theorem dX0_move_16 : decode cX0_move 16 = .ok (.if_icmp .eq 7, 3) := by decide +kernel
theorem dX0_move_19 : decode cX0_move 19 = .ok (.iload_n 3, 1) := by decide +kernel
theorem dX0_move_20 : decode cX0_move 20 = .ok (.ifCond .ne 5, 3) := by decide +kernel
theorem dX0_move_23 : decode cX0_move 23 = .ok (.iconst 3, 1) := by decide +kernel
theorem dX0_move_24 : decode cX0_move 24 = .ok (.ireturn, 1) := by decide +kernel
theorem dX0_move_25 : decode cX0_move 25 = .ok (.aload_n 1, 1) := by decide +kernel
theorem dX0_move_26 : decode cX0_move 26 = .ok (.getfield 113, 3) := by decide +kernel
theorem dX0_move_29 : decode cX0_move 29 = .ok (.iload_n 2, 1) := by decide +kernel
theorem dX0_move_30 : decode cX0_move 30 = .ok (.iload 4, 2) := by decide +kernel
theorem dX0_move_32 : decode cX0_move 32 = .ok (.iastore, 1) := by decide +kernel
theorem dX0_move_33 : decode cX0_move 33 = .ok (.aload_n 0, 1) := by decide +kernel
theorem dX0_move_34 : decode cX0_move 34 = .ok (.getfield 27, 3) := by decide +kernel
theorem dX0_move_37 : decode cX0_move 37 = .ok (.iload 4, 2) := by decide +kernel
theorem dX0_move_39 : decode cX0_move 39 = .ok (.iaload, 1) := by decide +kernel
theorem dX0_move_40 : decode cX0_move 40 = .ok (.iconst 1, 1) := by decide +kernel
theorem dX0_move_41 : decode cX0_move 41 = .ok (.if_icmp .ne 17, 3) := by decide +kernel
theorem dX0_move_44 : decode cX0_move 44 = .ok (.aload_n 1, 1) := by decide +kernel
theorem dX0_move_45 : decode cX0_move 45 = .ok (.dup, 1) := by decide +kernel
theorem dX0_move_46 : decode cX0_move 46 = .ok (.getfield 88, 3) := by decide +kernel
theorem dX0_move_49 : decode cX0_move 49 = .ok (.iconst 1, 1) := by decide +kernel
theorem dX0_move_50 : decode cX0_move 50 = .ok (.iload_n 2, 1) := by decide +kernel
theorem dX0_move_51 : decode cX0_move 51 = .ok (.ishl, 1) := by decide +kernel
theorem dX0_move_52 : decode cX0_move 52 = .ok (.ior, 1) := by decide +kernel
theorem dX0_move_53 : decode cX0_move 53 = .ok (.putfield 88, 3) := by decide +kernel
theorem dX0_move_56 : decode cX0_move 56 = .ok (.iconst 2, 1) := by decide +kernel
theorem dX0_move_57 : decode cX0_move 57 = .ok (.ireturn, 1) := by decide +kernel
theorem dX0_move_58 : decode cX0_move 58 = .ok (.aload_n 0, 1) := by decide +kernel
theorem dX0_move_59 : decode cX0_move 59 = .ok (.getfield 27, 3) := by decide +kernel
theorem dX0_move_62 : decode cX0_move 62 = .ok (.iload 4, 2) := by decide +kernel
theorem dX0_move_64 : decode cX0_move 64 = .ok (.iaload, 1) := by decide +kernel
theorem dX0_move_65 : decode cX0_move 65 = .ok (.iconst 2, 1) := by decide +kernel
theorem dX0_move_66 : decode cX0_move 66 = .ok (.if_icmp .ne 10, 3) := by decide +kernel
theorem dX0_move_69 : decode cX0_move 69 = .ok (.aload_n 1, 1) := by decide +kernel
theorem dX0_move_70 : decode cX0_move 70 = .ok (.iload_n 2, 1) := by decide +kernel
theorem dX0_move_71 : decode cX0_move 71 = .ok (.invokevirtual 168, 3) := by decide +kernel
theorem dX0_move_74 : decode cX0_move 74 = .ok (.iconst 1, 1) := by decide +kernel
theorem dX0_move_75 : decode cX0_move 75 = .ok (.ireturn, 1) := by decide +kernel
theorem dX0_move_76 : decode cX0_move 76 = .ok (.iconst 0, 1) := by decide +kernel
theorem dX0_move_77 : decode cX0_move 77 = .ok (.ireturn, 1) := by decide +kernel
theorem dX1_clear_0 : decode cX1_clear 0 = .ok (.aload_n 0, 1) := by decide +kernel
theorem dX1_clear_1 : decode cX1_clear 1 = .ok (.iconst 0, 1) := by decide +kernel
theorem dX1_clear_2 : decode cX1_clear 2 = .ok (.putfield 24, 3) := by decide +kernel
theorem dX1_clear_5 : decode cX1_clear 5 = .ok (.aload_n 0, 1) := by decide +kernel
theorem dX1_clear_6 : decode cX1_clear 6 = .ok (.iconst 0, 1) := by decide +kernel
theorem dX1_clear_7 : decode cX1_clear 7 = .ok (.putfield 28, 3) := by decide +kernel
theorem dX1_clear_10 : decode cX1_clear 10 = .ok (.return_, 1) := by decide +kernel
theorem dX1_becomeNumber_0 : decode cX1_becomeNumber 0 = .ok (.aload_n 0, 1) := by decide +kernel
theorem dX1_becomeNumber_1 : decode cX1_becomeNumber 1 = .ok (.invokevirtual 35, 3) := by decide +kernel
theorem dX1_becomeNumber_4 : decode cX1_becomeNumber 4 = .ok (.aload_n 0, 1) := by decide +kernel
theorem dX1_becomeNumber_5 : decode cX1_becomeNumber 5 = .ok (.iload_n 1, 1) := by decide +kernel
theorem dX1_becomeNumber_6 : decode cX1_becomeNumber 6 = .ok (.invokevirtual 38, 3) := by decide +kernel
theorem dX1_becomeNumber_9 : decode cX1_becomeNumber 9 = .ok (.aload_n 0, 1) := by decide +kernel
theorem dX1_becomeNumber_10 : decode cX1_becomeNumber 10 = .ok (.invokevirtual 42, 3) := by decide +kernel
theorem dX1_becomeNumber_13 : decode cX1_becomeNumber 13 = .ok (.return_, 1) := by decide +kernel
theorem dX1_addCode_0 : decode cX1_addCode 0 = .ok (.aload_n 0, 1) := by decide +kernel
theorem dX1_addCode_1 : decode cX1_addCode 1 = .ok (.getfield 24, 3) := by decide +kernel
theorem dX1_addCode_4 : decode cX1_addCode 4 = .ok (.sipush 400, 3) := by decide +kernel
theorem dX1_addCode_7 : decode cX1_addCode 7 = .ok (.if_icmp .ge 23, 3) := by decide +kernel
theorem dX1_addCode_10 : decode cX1_addCode 10 = .ok (.aload_n 0, 1) := by decide +kernel
theorem dX1_addCode_11 : decode cX1_addCode 11 = .ok (.getfield 15, 3) := by decide +kernel
theorem dX1_addCode_14 : decode cX1_addCode 14 = .ok (.aload_n 0, 1) := by decide +kernel
theorem dX1_addCode_15 : decode cX1_addCode 15 = .ok (.getfield 24, 3) := by decide +kernel
theorem dX1_addCode_18 : decode cX1_addCode 18 = .ok (.iload_n 1, 1) := by decide +kernel
theorem dX1_addCode_19 : decode cX1_addCode 19 = .ok (.iastore, 1) := by decide +kernel
theorem dX1_addCode_20 : decode cX1_addCode 20 = .ok (.aload_n 0, 1) := by decide +kernel
theorem dX1_addCode_21 : decode cX1_addCode 21 = .ok (.dup, 1) := by decide +kernel
theorem dX1_addCode_22 : decode cX1_addCode 22 = .ok (.getfield 24, 3) := by decide +kernel
theorem dX1_addCode_25 : decode cX1_addCode 25 = .ok (.iconst 1, 1) := by decide +kernel
theorem dX1_addCode_26 : decode cX1_addCode 26 = .ok (.iadd, 1) := by decide +kernel
theorem dX1_addCode_27 : decode cX1_addCode 27 = .ok (.putfield 24, 3) := by decide +kernel
theorem dX1_addCode_30 : decode cX1_addCode 30 = .ok (.return_, 1) := by decide +kernel
theorem dX1_endPiece_0 : decode cX1_endPiece 0 = .ok (.aload_n 0, 1) := by decide +kernel
theorem dX1_endPiece_1 : decode cX1_endPiece 1 = .ok (.getfield 28, 3) := by decide +kernel
theorem dX1_endPiece_4 : decode cX1_endPiece 4 = .ok (.bipush 13, 2) := by decide +kernel
theorem dX1_endPiece_6 : decode cX1_endPiece 6 = .ok (.if_icmp .ge 26, 3) := by decide +kernel
theorem dX1_endPiece_9 : decode cX1_endPiece 9 = .ok (.aload_n 0, 1) := by decide +kernel
theorem dX1_endPiece_10 : decode cX1_endPiece 10 = .ok (.getfield 18, 3) := by decide +kernel
theorem dX1_endPiece_13 : decode cX1_endPiece 13 = .ok (.aload_n 0, 1) := by decide +kernel
theorem dX1_endPiece_14 : decode cX1_endPiece 14 = .ok (.getfield 28, 3) := by decide +kernel
theorem dX1_endPiece_17 : decode cX1_endPiece 17 = .ok (.aload_n 0, 1) := by decide +kernel
theorem dX1_endPiece_18 : decode cX1_endPiece 18 = .ok (.getfield 24, 3) := by decide +kernel
theorem dX1_endPiece_21 : decode cX1_endPiece 21 = .ok (.iastore, 1) := by decide +kernel
theorem dX1_endPiece_22 : decode cX1_endPiece 22 = .ok (.aload_n 0, 1) := by decide +kernel
theorem dX1_endPiece_23 : decode cX1_endPiece 23 = .ok (.dup, 1) := by decide +kernel
theorem dX1_endPiece_24 : decode cX1_endPiece 24 = .ok (.getfield 28, 3) := by decide +kernel
theorem dX1_endPiece_27 : decode cX1_endPiece 27 = .ok (.iconst 1, 1) := by decide +kernel
theorem dX1_endPiece_28 : decode cX1_endPiece 28 = .ok (.iadd, 1) := by decide +kernel
theorem dX1_endPiece_29 : decode cX1_endPiece 29 = .ok (.putfield 28, 3) := by decide +kernel
theorem dX1_endPiece_32 : decode cX1_endPiece 32 = .ok (.return_, 1) := by decide +kernel
theorem dX1_tells_0 : decode cX1_tells 0 = .ok (.aload_n 0, 1) := by decide +kernel
theorem dX1_tells_1 : decode cX1_tells 1 = .ok (.iconst 0, 1) := by decide +kernel
theorem dX1_tells_2 : decode cX1_tells 2 = .ok (.putfield 31, 3) := by decide +kernel
theorem dX1_tells_5 : decode cX1_tells 5 = .ok (.aload_n 0, 1) := by decide +kernel
theorem dX1_tells_6 : decode cX1_tells 6 = .ok (.getfield 28, 3) := by decide +kernel
theorem dX1_tells_9 : decode cX1_tells 9 = .ok (.iconst 1, 1) := by decide +kernel
theorem dX1_tells_10 : decode cX1_tells 10 = .ok (.isub, 1) := by decide +kernel
theorem dX1_tells_11 : decode cX1_tells 11 = .ok (.istore_n 1, 1) := by decide +kernel
theorem dX1_tells_12 : decode cX1_tells 12 = .ok (.iconst 0, 1) := by decide +kernel
theorem dX1_tells_13 : decode cX1_tells 13 = .ok (.istore_n 2, 1) := by decide +kernel
theorem dX1_tells_14 : decode cX1_tells 14 = .ok (.iload_n 2, 1) := by decide +kernel
theorem dX1_tells_15 : decode cX1_tells 15 = .ok (.iconst 2, 1) := by decide +kernel
theorem dX1_tells_16 : decode cX1_tells 16 = .ok (.iadd, 1) := by decide +kernel
theorem dX1_tells_17 : decode cX1_tells 17 = .ok (.iload_n 1, 1) := by decide +kernel
theorem dX1_tells_18 : decode cX1_tells 18 = .ok (.if_icmp .ge 51, 3) := by decide +kernel
theorem dX1_tells_21 : decode cX1_tells 21 = .ok (.aload_n 0, 1) := by decide +kernel
theorem dX1_tells_22 : decode cX1_tells 22 = .ok (.iload_n 2, 1) := by decide +kernel
theorem dX1_tells_23 : decode cX1_tells 23 = .ok (.invokevirtual 45, 3) := by decide +kernel
theorem dX1_tells_26 : decode cX1_tells 26 = .ok (.istore_n 3, 1) := by decide +kernel
theorem dX1_tells_27 : decode cX1_tells 27 = .ok (.aload_n 0, 1) := by decide +kernel
theorem dX1_tells_28 : decode cX1_tells 28 = .ok (.iload_n 2, 1) := by decide +kernel
theorem dX1_tells_29 : decode cX1_tells 29 = .ok (.iconst 1, 1) := by decide +kernel
theorem dX1_tells_30 : decode cX1_tells 30 = .ok (.iadd, 1) := by decide +kernel
theorem dX1_tells_31 : decode cX1_tells 31 = .ok (.invokevirtual 45, 3) := by decide +kernel
theorem dX1_tells_34 : decode cX1_tells 34 = .ok (.istore 4, 2) := by decide +kernel
theorem dX1_tells_36 : decode cX1_tells 36 = .ok (.aload_n 0, 1) := by decide +kernel
theorem dX1_tells_37 : decode cX1_tells 37 = .ok (.getfield 31, 3) := by decide +kernel
theorem dX1_tells_40 : decode cX1_tells 40 = .ok (.ifCond .eq 5, 3) := by decide +kernel
theorem dX1_tells_43 : decode cX1_tells 43 = .ok (.iconst 0, 1) := by decide +kernel
theorem dX1_tells_44 : decode cX1_tells 44 = .ok (.ireturn, 1) := by decide +kernel
theorem dX1_tells_45 : decode cX1_tells 45 = .ok (.iload_n 3, 1) := by decide +kernel
theorem dX1_tells_46 : decode cX1_tells 46 = .ok (.iload 4, 2) := by decide +kernel
theorem dX1_tells_48 : decode cX1_tells 48 = .ok (.if_icmp .ge 15, 3) := by decide +kernel
theorem dX1_tells_51 : decode cX1_tells 51 = .ok (.aload_n 0, 1) := by decide +kernel
theorem dX1_tells_52 : decode cX1_tells 52 = .ok (.aload_n 0, 1) := by decide +kernel
theorem dX1_tells_53 : decode cX1_tells 53 = .ok (.iload_n 2, 1) := by decide +kernel
theorem dX1_tells_54 : decode cX1_tells 54 = .ok (.iconst 2, 1) := by decide +kernel
theorem dX1_tells_55 : decode cX1_tells 55 = .ok (.iadd, 1) := by decide +kernel
theorem dX1_tells_56 : decode cX1_tells 56 = .ok (.invokevirtual 45, 3) := by decide +kernel
theorem dX1_tells_59 : decode cX1_tells 59 = .ok (.invokevirtual 49, 3) := by decide +kernel
theorem dX1_tells_62 : decode cX1_tells 62 = .ok (.ireturn, 1) := by decide +kernel
theorem dX1_tells_63 : decode cX1_tells 63 = .ok (.iinc 2 3, 3) := by decide +kernel
theorem dX1_tells_66 : decode cX1_tells 66 = .ok (.goto (-52), 3) := by decide +kernel
theorem dX1_tells_69 : decode cX1_tells 69 = .ok (.aload_n 0, 1) := by decide +kernel
theorem dX1_tells_70 : decode cX1_tells 70 = .ok (.aload_n 0, 1) := by decide +kernel
theorem dX1_tells_71 : decode cX1_tells 71 = .ok (.iload_n 1, 1) := by decide +kernel
theorem dX1_tells_72 : decode cX1_tells 72 = .ok (.invokevirtual 45, 3) := by decide +kernel
theorem dX1_tells_75 : decode cX1_tells 75 = .ok (.invokevirtual 49, 3) := by decide +kernel
theorem dX1_tells_78 : decode cX1_tells 78 = .ok (.ireturn, 1) := by decide +kernel
theorem dX1_whole_0 : decode cX1_whole 0 = .ok (.aload_n 0, 1) := by decide +kernel
theorem dX1_whole_1 : decode cX1_whole 1 = .ok (.getfield 31, 3) := by decide +kernel
theorem dX1_whole_4 : decode cX1_whole 4 = .ok (.ifCond .eq 7, 3) := by decide +kernel
theorem dX1_whole_7 : decode cX1_whole 7 = .ok (.iconst 0, 1) := by decide +kernel
theorem dX1_whole_8 : decode cX1_whole 8 = .ok (.goto 4, 3) := by decide +kernel
theorem dX1_whole_11 : decode cX1_whole 11 = .ok (.iload_n 1, 1) := by decide +kernel
theorem dX1_whole_12 : decode cX1_whole 12 = .ok (.ireturn, 1) := by decide +kernel
theorem dX1_value_0 : decode cX1_value 0 = .ok (.iload_n 1, 1) := by decide +kernel
theorem dX1_value_1 : decode cX1_value 1 = .ok (.ifCond .lt 11, 3) := by decide +kernel
theorem dX1_value_4 : decode cX1_value 4 = .ok (.iload_n 1, 1) := by decide +kernel
theorem dX1_value_5 : decode cX1_value 5 = .ok (.aload_n 0, 1) := by decide +kernel
theorem dX1_value_6 : decode cX1_value 6 = .ok (.getfield 28, 3) := by decide +kernel
theorem dX1_value_9 : decode cX1_value 9 = .ok (.if_icmp .lt 5, 3) := by decide +kernel
theorem dX1_value_12 : decode cX1_value 12 = .ok (.iconst 0, 1) := by decide +kernel
theorem dX1_value_13 : decode cX1_value 13 = .ok (.ireturn, 1) := by decide +kernel
theorem dX1_value_14 : decode cX1_value 14 = .ok (.iconst 0, 1) := by decide +kernel
theorem dX1_value_15 : decode cX1_value 15 = .ok (.istore_n 2, 1) := by decide +kernel
theorem dX1_value_16 : decode cX1_value 16 = .ok (.iload_n 1, 1) := by decide +kernel
theorem dX1_value_17 : decode cX1_value 17 = .ok (.ifCond .ne 7, 3) := by decide +kernel
theorem dX1_value_20 : decode cX1_value 20 = .ok (.iconst 0, 1) := by decide +kernel
theorem dX1_value_21 : decode cX1_value 21 = .ok (.goto 11, 3) := by decide +kernel
theorem dX1_value_24 : decode cX1_value 24 = .ok (.aload_n 0, 1) := by decide +kernel
theorem dX1_value_25 : decode cX1_value 25 = .ok (.getfield 18, 3) := by decide +kernel
theorem dX1_value_28 : decode cX1_value 28 = .ok (.iload_n 1, 1) := by decide +kernel
theorem dX1_value_29 : decode cX1_value 29 = .ok (.iconst 1, 1) := by decide +kernel
theorem dX1_value_30 : decode cX1_value 30 = .ok (.isub, 1) := by decide +kernel
theorem dX1_value_31 : decode cX1_value 31 = .ok (.iaload, 1) := by decide +kernel
theorem dX1_value_32 : decode cX1_value 32 = .ok (.istore_n 3, 1) := by decide +kernel
theorem dX1_value_33 : decode cX1_value 33 = .ok (.iload_n 3, 1) := by decide +kernel
theorem dX1_value_34 : decode cX1_value 34 = .ok (.aload_n 0, 1) := by decide +kernel
theorem dX1_value_35 : decode cX1_value 35 = .ok (.getfield 18, 3) := by decide +kernel
theorem dX1_value_38 : decode cX1_value 38 = .ok (.iload_n 1, 1) := by decide +kernel
theorem dX1_value_39 : decode cX1_value 39 = .ok (.iaload, 1) := by decide +kernel
theorem dX1_value_40 : decode cX1_value 40 = .ok (.if_icmp .ge 201, 3) := by decide +kernel
theorem dX1_value_43 : decode cX1_value 43 = .ok (.aload_n 0, 1) := by decide +kernel
theorem dX1_value_44 : decode cX1_value 44 = .ok (.getfield 15, 3) := by decide +kernel
theorem dX1_value_47 : decode cX1_value 47 = .ok (.iload_n 3, 1) := by decide +kernel
theorem dX1_value_48 : decode cX1_value 48 = .ok (.iaload, 1) := by decide +kernel
theorem dX1_value_49 : decode cX1_value 49 = .ok (.istore 4, 2) := by decide +kernel
theorem dX1_value_51 : decode cX1_value 51 = .ok (.iload 4, 2) := by decide +kernel
theorem dX1_value_53 : decode cX1_value 53 = .ok (.sipush 10100, 3) := by decide +kernel
theorem dX1_value_56 : decode cX1_value 56 = .ok (.if_icmp .ge 45, 3) := by decide +kernel
theorem dX1_value_59 : decode cX1_value 59 = .ok (.iload_n 2, 1) := by decide +kernel
theorem dX1_value_60 : decode cX1_value 60 = .ok (.bipush 32, 2) := by decide +kernel
theorem dX1_value_62 : decode cX1_value 62 = .ok (.if_icmp .ge 39, 3) := by decide +kernel
theorem dX1_value_65 : decode cX1_value 65 = .ok (.aload_n 0, 1) := by decide +kernel
theorem dX1_value_66 : decode cX1_value 66 = .ok (.getfield 21, 3) := by decide +kernel
theorem dX1_value_69 : decode cX1_value 69 = .ok (.iload_n 2, 1) := by decide +kernel
theorem dX1_value_70 : decode cX1_value 70 = .ok (.iload 4, 2) := by decide +kernel
theorem dX1_value_72 : decode cX1_value 72 = .ok (.sipush 10000, 3) := by decide +kernel
theorem dX1_value_75 : decode cX1_value 75 = .ok (.if_icmp .ge 8, 3) := by decide +kernel
theorem dX1_value_78 : decode cX1_value 78 = .ok (.iload 4, 2) := by decide +kernel
theorem dX1_value_80 : decode cX1_value 80 = .ok (.goto 14, 3) := by decide +kernel
theorem dX1_value_83 : decode cX1_value 83 = .ok (.aload_n 0, 1) := by decide +kernel
theorem dX1_value_84 : decode cX1_value 84 = .ok (.getfield 9, 3) := by decide +kernel
theorem dX1_value_87 : decode cX1_value 87 = .ok (.iload 4, 2) := by decide +kernel
theorem dX1_value_89 : decode cX1_value 89 = .ok (.sipush 10000, 3) := by decide +kernel
theorem dX1_value_92 : decode cX1_value 92 = .ok (.isub, 1) := by decide +kernel
theorem dX1_value_93 : decode cX1_value 93 = .ok (.iaload, 1) := by decide +kernel
theorem dX1_value_94 : decode cX1_value 94 = .ok (.iastore, 1) := by decide +kernel
theorem dX1_value_95 : decode cX1_value 95 = .ok (.iinc 2 1, 3) := by decide +kernel
theorem dX1_value_98 : decode cX1_value 98 = .ok (.goto 137, 3) := by decide +kernel
theorem dX1_value_101 : decode cX1_value 101 = .ok (.iload 4, 2) := by decide +kernel
theorem dX1_value_103 : decode cX1_value 103 = .ok (.sipush 10100, 3) := by decide +kernel
theorem dX1_value_106 : decode cX1_value 106 = .ok (.if_icmp .lt 129, 3) := by decide +kernel
theorem dX1_value_109 : decode cX1_value 109 = .ok (.iload_n 2, 1) := by decide +kernel
theorem dX1_value_110 : decode cX1_value 110 = .ok (.iconst 2, 1) := by decide +kernel
theorem dX1_value_111 : decode cX1_value 111 = .ok (.if_icmp .lt 124, 3) := by decide +kernel
theorem dX1_value_114 : decode cX1_value 114 = .ok (.iinc 2 (-1), 3) := by decide +kernel
theorem dX1_value_117 : decode cX1_value 117 = .ok (.aload_n 0, 1) := by decide +kernel
theorem dX1_value_118 : decode cX1_value 118 = .ok (.getfield 21, 3) := by decide +kernel
theorem dX1_value_121 : decode cX1_value 121 = .ok (.iload_n 2, 1) := by decide +kernel
theorem dX1_value_122 : decode cX1_value 122 = .ok (.iconst 1, 1) := by decide +kernel
theorem dX1_value_123 : decode cX1_value 123 = .ok (.isub, 1) := by decide +kernel
theorem dX1_value_124 : decode cX1_value 124 = .ok (.iaload, 1) := by decide +kernel
theorem dX1_value_125 : decode cX1_value 125 = .ok (.istore 5, 2) := by decide +kernel
theorem dX1_value_127 : decode cX1_value 127 = .ok (.aload_n 0, 1) := by decide +kernel
theorem dX1_value_128 : decode cX1_value 128 = .ok (.getfield 21, 3) := by decide +kernel
theorem dX1_value_131 : decode cX1_value 131 = .ok (.iload_n 2, 1) := by decide +kernel
theorem dX1_value_132 : decode cX1_value 132 = .ok (.iaload, 1) := by decide +kernel
theorem dX1_value_133 : decode cX1_value 133 = .ok (.istore 6, 2) := by decide +kernel
theorem dX1_value_135 : decode cX1_value 135 = .ok (.iload 4, 2) := by decide +kernel
theorem dX1_value_137 : decode cX1_value 137 = .ok (.sipush 10100, 3) := by decide +kernel
theorem dX1_value_140 : decode cX1_value 140 = .ok (.if_icmp .ne 19, 3) := by decide +kernel
theorem dX1_value_143 : decode cX1_value 143 = .ok (.aload_n 0, 1) := by decide +kernel
theorem dX1_value_144 : decode cX1_value 144 = .ok (.getfield 21, 3) := by decide +kernel
theorem dX1_value_147 : decode cX1_value 147 = .ok (.iload_n 2, 1) := by decide +kernel
theorem dX1_value_148 : decode cX1_value 148 = .ok (.iconst 1, 1) := by decide +kernel
theorem dX1_value_149 : decode cX1_value 149 = .ok (.isub, 1) := by decide +kernel
theorem dX1_value_150 : decode cX1_value 150 = .ok (.iload 5, 2) := by decide +kernel
theorem dX1_value_152 : decode cX1_value 152 = .ok (.iload 6, 2) := by decide +kernel
theorem dX1_value_154 : decode cX1_value 154 = .ok (.iadd, 1) := by decide +kernel
theorem dX1_value_155 : decode cX1_value 155 = .ok (.iastore, 1) := by decide +kernel
theorem dX1_value_156 : decode cX1_value 156 = .ok (.goto 79, 3) := by decide +kernel
theorem dX1_value_159 : decode cX1_value 159 = .ok (.iload 4, 2) := by decide +kernel
theorem dX1_value_161 : decode cX1_value 161 = .ok (.sipush 10101, 3) := by decide +kernel
theorem dX1_value_164 : decode cX1_value 164 = .ok (.if_icmp .ne 19, 3) := by decide +kernel
theorem dX1_value_167 : decode cX1_value 167 = .ok (.aload_n 0, 1) := by decide +kernel
theorem dX1_value_168 : decode cX1_value 168 = .ok (.getfield 21, 3) := by decide +kernel
theorem dX1_value_171 : decode cX1_value 171 = .ok (.iload_n 2, 1) := by decide +kernel
theorem dX1_value_172 : decode cX1_value 172 = .ok (.iconst 1, 1) := by decide +kernel
theorem dX1_value_173 : decode cX1_value 173 = .ok (.isub, 1) := by decide +kernel
theorem dX1_value_174 : decode cX1_value 174 = .ok (.iload 5, 2) := by decide +kernel
theorem dX1_value_176 : decode cX1_value 176 = .ok (.iload 6, 2) := by decide +kernel
theorem dX1_value_178 : decode cX1_value 178 = .ok (.isub, 1) := by decide +kernel
theorem dX1_value_179 : decode cX1_value 179 = .ok (.iastore, 1) := by decide +kernel
theorem dX1_value_180 : decode cX1_value 180 = .ok (.goto 55, 3) := by decide +kernel
theorem dX1_value_183 : decode cX1_value 183 = .ok (.iload 4, 2) := by decide +kernel
theorem dX1_value_185 : decode cX1_value 185 = .ok (.sipush 10102, 3) := by decide +kernel
theorem dX1_value_188 : decode cX1_value 188 = .ok (.if_icmp .ne 19, 3) := by decide +kernel
theorem dX1_value_191 : decode cX1_value 191 = .ok (.aload_n 0, 1) := by decide +kernel
theorem dX1_value_192 : decode cX1_value 192 = .ok (.getfield 21, 3) := by decide +kernel
theorem dX1_value_195 : decode cX1_value 195 = .ok (.iload_n 2, 1) := by decide +kernel
theorem dX1_value_196 : decode cX1_value 196 = .ok (.iconst 1, 1) := by decide +kernel
theorem dX1_value_197 : decode cX1_value 197 = .ok (.isub, 1) := by decide +kernel
theorem dX1_value_198 : decode cX1_value 198 = .ok (.iload 5, 2) := by decide +kernel
theorem dX1_value_200 : decode cX1_value 200 = .ok (.iload 6, 2) := by decide +kernel
theorem dX1_value_202 : decode cX1_value 202 = .ok (.imul, 1) := by decide +kernel
theorem dX1_value_203 : decode cX1_value 203 = .ok (.iastore, 1) := by decide +kernel
theorem dX1_value_204 : decode cX1_value 204 = .ok (.goto 31, 3) := by decide +kernel
theorem dX1_value_207 : decode cX1_value 207 = .ok (.iload 6, 2) := by decide +kernel
theorem dX1_value_209 : decode cX1_value 209 = .ok (.ifCond .eq 19, 3) := by decide +kernel
theorem dX1_value_212 : decode cX1_value 212 = .ok (.aload_n 0, 1) := by decide +kernel
theorem dX1_value_213 : decode cX1_value 213 = .ok (.getfield 21, 3) := by decide +kernel
theorem dX1_value_216 : decode cX1_value 216 = .ok (.iload_n 2, 1) := by decide +kernel
theorem dX1_value_217 : decode cX1_value 217 = .ok (.iconst 1, 1) := by decide +kernel
theorem dX1_value_218 : decode cX1_value 218 = .ok (.isub, 1) := by decide +kernel
theorem dX1_value_219 : decode cX1_value 219 = .ok (.iload 5, 2) := by decide +kernel
theorem dX1_value_221 : decode cX1_value 221 = .ok (.iload 6, 2) := by decide +kernel
theorem dX1_value_223 : decode cX1_value 223 = .ok (.idiv, 1) := by decide +kernel
theorem dX1_value_224 : decode cX1_value 224 = .ok (.iastore, 1) := by decide +kernel
theorem dX1_value_225 : decode cX1_value 225 = .ok (.goto 10, 3) := by decide +kernel
theorem dX1_value_228 : decode cX1_value 228 = .ok (.aload_n 0, 1) := by decide +kernel
theorem dX1_value_229 : decode cX1_value 229 = .ok (.iconst 1, 1) := by decide +kernel
theorem dX1_value_230 : decode cX1_value 230 = .ok (.putfield 31, 3) := by decide +kernel
theorem dX1_value_233 : decode cX1_value 233 = .ok (.iconst 0, 1) := by decide +kernel
theorem dX1_value_234 : decode cX1_value 234 = .ok (.ireturn, 1) := by decide +kernel
theorem dX1_value_235 : decode cX1_value 235 = .ok (.iinc 3 1, 3) := by decide +kernel
theorem dX1_value_238 : decode cX1_value 238 = .ok (.goto (-205), 3) := by decide +kernel
theorem dX1_value_241 : decode cX1_value 241 = .ok (.aload_n 0, 1) := by decide +kernel
theorem dX1_value_242 : decode cX1_value 242 = .ok (.getfield 21, 3) := by decide +kernel
theorem dX1_value_245 : decode cX1_value 245 = .ok (.iconst 0, 1) := by decide +kernel
theorem dX1_value_246 : decode cX1_value 246 = .ok (.iaload, 1) := by decide +kernel
theorem dX1_value_247 : decode cX1_value 247 = .ok (.ireturn, 1) := by decide +kernel
theorem dX2_nthRest_0 : decode cX2_nthRest 0 = .ok (.iconst 0, 1) := by decide +kernel
theorem dX2_nthRest_1 : decode cX2_nthRest 1 = .ok (.istore 5, 2) := by decide +kernel
theorem dX2_nthRest_3 : decode cX2_nthRest 3 = .ok (.iload 5, 2) := by decide +kernel
theorem dX2_nthRest_5 : decode cX2_nthRest 5 = .ok (.aload_n 2, 1) := by decide +kernel
theorem dX2_nthRest_6 : decode cX2_nthRest 6 = .ok (.getfield 22, 3) := by decide +kernel
theorem dX2_nthRest_9 : decode cX2_nthRest 9 = .ok (.if_icmp .gt 30, 3) := by decide +kernel
theorem dX2_nthRest_12 : decode cX2_nthRest 12 = .ok (.iload 5, 2) := by decide +kernel
theorem dX2_nthRest_14 : decode cX2_nthRest 14 = .ok (.aload_n 2, 1) := by decide +kernel
theorem dX2_nthRest_15 : decode cX2_nthRest 15 = .ok (.getfield 22, 3) := by decide +kernel
theorem dX2_nthRest_18 : decode cX2_nthRest 18 = .ok (.iconst (-1), 1) := by decide +kernel
theorem dX2_nthRest_19 : decode cX2_nthRest 19 = .ok (.ixor, 1) := by decide +kernel
theorem dX2_nthRest_20 : decode cX2_nthRest 20 = .ok (.iand, 1) := by decide +kernel
theorem dX2_nthRest_21 : decode cX2_nthRest 21 = .ok (.ifCond .ne 12, 3) := by decide +kernel
theorem dX2_nthRest_24 : decode cX2_nthRest 24 = .ok (.aload_n 0, 1) := by decide +kernel
theorem dX2_nthRest_25 : decode cX2_nthRest 25 = .ok (.aload_n 1, 1) := by decide +kernel
theorem dX2_nthRest_26 : decode cX2_nthRest 26 = .ok (.aload_n 2, 1) := by decide +kernel
theorem dX2_nthRest_27 : decode cX2_nthRest 27 = .ok (.iload_n 3, 1) := by decide +kernel
theorem dX2_nthRest_28 : decode cX2_nthRest 28 = .ok (.iload 5, 2) := by decide +kernel
theorem dX2_nthRest_30 : decode cX2_nthRest 30 = .ok (.invokevirtual 26, 3) := by decide +kernel
theorem dX2_nthRest_33 : decode cX2_nthRest 33 = .ok (.iinc 5 1, 3) := by decide +kernel
theorem dX2_nthRest_36 : decode cX2_nthRest 36 = .ok (.goto (-33), 3) := by decide +kernel
theorem dX2_nthRest_39 : decode cX2_nthRest 39 = .ok (.iconst 0, 1) := by decide +kernel
theorem dX2_nthRest_40 : decode cX2_nthRest 40 = .ok (.istore 5, 2) := by decide +kernel
theorem dX2_nthRest_42 : decode cX2_nthRest 42 = .ok (.iconst 0, 1) := by decide +kernel
theorem dX2_nthRest_43 : decode cX2_nthRest 43 = .ok (.istore 6, 2) := by decide +kernel
theorem dX2_nthRest_45 : decode cX2_nthRest 45 = .ok (.iload 6, 2) := by decide +kernel
theorem dX2_nthRest_47 : decode cX2_nthRest 47 = .ok (.aload_n 2, 1) := by decide +kernel
theorem dX2_nthRest_48 : decode cX2_nthRest 48 = .ok (.getfield 22, 3) := by decide +kernel
theorem dX2_nthRest_51 : decode cX2_nthRest 51 = .ok (.if_icmp .gt 47, 3) := by decide +kernel
theorem dX2_nthRest_54 : decode cX2_nthRest 54 = .ok (.iload 6, 2) := by decide +kernel
theorem dX2_nthRest_56 : decode cX2_nthRest 56 = .ok (.aload_n 2, 1) := by decide +kernel
theorem dX2_nthRest_57 : decode cX2_nthRest 57 = .ok (.getfield 22, 3) := by decide +kernel
theorem dX2_nthRest_60 : decode cX2_nthRest 60 = .ok (.iconst (-1), 1) := by decide +kernel
theorem dX2_nthRest_61 : decode cX2_nthRest 61 = .ok (.ixor, 1) := by decide +kernel
theorem dX2_nthRest_62 : decode cX2_nthRest 62 = .ok (.iand, 1) := by decide +kernel
theorem dX2_nthRest_63 : decode cX2_nthRest 63 = .ok (.ifCond .ne 29, 3) := by decide +kernel
theorem dX2_nthRest_66 : decode cX2_nthRest 66 = .ok (.aload_n 0, 1) := by decide +kernel
theorem dX2_nthRest_67 : decode cX2_nthRest 67 = .ok (.aload_n 2, 1) := by decide +kernel
theorem dX2_nthRest_68 : decode cX2_nthRest 68 = .ok (.getfield 22, 3) := by decide +kernel
theorem dX2_nthRest_71 : decode cX2_nthRest 71 = .ok (.iload 6, 2) := by decide +kernel
theorem dX2_nthRest_73 : decode cX2_nthRest 73 = .ok (.invokevirtual 30, 3) := by decide +kernel
theorem dX2_nthRest_76 : decode cX2_nthRest 76 = .ok (.ifCond .eq 16, 3) := by decide +kernel
theorem dX2_nthRest_79 : decode cX2_nthRest 79 = .ok (.iload 5, 2) := by decide +kernel
theorem dX2_nthRest_81 : decode cX2_nthRest 81 = .ok (.iload 4, 2) := by decide +kernel
theorem dX2_nthRest_83 : decode cX2_nthRest 83 = .ok (.if_icmp .ne 6, 3) := by decide +kernel
theorem dX2_nthRest_86 : decode cX2_nthRest 86 = .ok (.iload 6, 2) := by decide +kernel
theorem dX2_nthRest_88 : decode cX2_nthRest 88 = .ok (.ireturn, 1) := by decide +kernel
theorem dX2_nthRest_89 : decode cX2_nthRest 89 = .ok (.iinc 5 1, 3) := by decide +kernel
theorem dX2_nthRest_92 : decode cX2_nthRest 92 = .ok (.iinc 6 1, 3) := by decide +kernel
theorem dX2_nthRest_95 : decode cX2_nthRest 95 = .ok (.goto (-50), 3) := by decide +kernel
theorem dX2_nthRest_98 : decode cX2_nthRest 98 = .ok (.iload 4, 2) := by decide +kernel
theorem dX2_nthRest_100 : decode cX2_nthRest 100 = .ok (.iconst (-1), 1) := by decide +kernel
theorem dX2_nthRest_101 : decode cX2_nthRest 101 = .ok (.if_icmp .ne 8, 3) := by decide +kernel
theorem dX2_nthRest_104 : decode cX2_nthRest 104 = .ok (.iload 5, 2) := by decide +kernel
theorem dX2_nthRest_106 : decode cX2_nthRest 106 = .ok (.goto 4, 3) := by decide +kernel
theorem dX2_nthRest_109 : decode cX2_nthRest 109 = .ok (.iconst (-1), 1) := by decide +kernel
theorem dX2_nthRest_110 : decode cX2_nthRest 110 = .ok (.ireturn, 1) := by decide +kernel
theorem dX2_sail_0 : decode cX2_sail 0 = .ok (.aload_n 0, 1) := by decide +kernel
theorem dX2_sail_1 : decode cX2_sail 1 = .ok (.getfield 18, 3) := by decide +kernel
theorem dX2_sail_4 : decode cX2_sail 4 = .ok (.aload_n 2, 1) := by decide +kernel
theorem dX2_sail_5 : decode cX2_sail 5 = .ok (.invokevirtual 34, 3) := by decide +kernel
theorem dX2_sail_8 : decode cX2_sail 8 = .ok (.aload_n 0, 1) := by decide +kernel
theorem dX2_sail_9 : decode cX2_sail 9 = .ok (.getfield 18, 3) := by decide +kernel
theorem dX2_sail_12 : decode cX2_sail 12 = .ok (.dup, 1) := by decide +kernel
theorem dX2_sail_13 : decode cX2_sail 13 = .ok (.getfield 22, 3) := by decide +kernel
theorem dX2_sail_16 : decode cX2_sail 16 = .ok (.iload 4, 2) := by decide +kernel
theorem dX2_sail_18 : decode cX2_sail 18 = .ok (.iconst (-1), 1) := by decide +kernel
theorem dX2_sail_19 : decode cX2_sail 19 = .ok (.ixor, 1) := by decide +kernel
theorem dX2_sail_20 : decode cX2_sail 20 = .ok (.iand, 1) := by decide +kernel
theorem dX2_sail_21 : decode cX2_sail 21 = .ok (.putfield 22, 3) := by decide +kernel
theorem dX2_sail_24 : decode cX2_sail 24 = .ok (.iconst 0, 1) := by decide +kernel
theorem dX2_sail_25 : decode cX2_sail 25 = .ok (.istore 5, 2) := by decide +kernel
theorem dX2_sail_27 : decode cX2_sail 27 = .ok (.iload 5, 2) := by decide +kernel
theorem dX2_sail_29 : decode cX2_sail 29 = .ok (.iload_n 3, 1) := by decide +kernel
theorem dX2_sail_30 : decode cX2_sail 30 = .ok (.if_icmp .ge 21, 3) := by decide +kernel
theorem dX2_sail_33 : decode cX2_sail 33 = .ok (.aload_n 1, 1) := by decide +kernel
theorem dX2_sail_34 : decode cX2_sail 34 = .ok (.aload_n 0, 1) := by decide +kernel
theorem dX2_sail_35 : decode cX2_sail 35 = .ok (.getfield 18, 3) := by decide +kernel
theorem dX2_sail_38 : decode cX2_sail 38 = .ok (.aload_n 1, 1) := by decide +kernel
theorem dX2_sail_39 : decode cX2_sail 39 = .ok (.getfield 38, 3) := by decide +kernel
theorem dX2_sail_42 : decode cX2_sail 42 = .ok (.invokevirtual 43, 3) := by decide +kernel
theorem dX2_sail_45 : decode cX2_sail 45 = .ok (.iinc 5 1, 3) := by decide +kernel
theorem dX2_sail_48 : decode cX2_sail 48 = .ok (.goto (-21), 3) := by decide +kernel
theorem dX2_sail_51 : decode cX2_sail 51 = .ok (.iconst 0, 1) := by decide +kernel
theorem dX2_sail_52 : decode cX2_sail 52 = .ok (.istore 5, 2) := by decide +kernel
theorem dX2_sail_54 : decode cX2_sail 54 = .ok (.iload 5, 2) := by decide +kernel
theorem dX2_sail_56 : decode cX2_sail 56 = .ok (.aload_n 1, 1) := by decide +kernel
theorem dX2_sail_57 : decode cX2_sail 57 = .ok (.getfield 47, 3) := by decide +kernel
theorem dX2_sail_60 : decode cX2_sail 60 = .ok (.if_icmp .ge 28, 3) := by decide +kernel
theorem dX2_sail_63 : decode cX2_sail 63 = .ok (.aload_n 0, 1) := by decide +kernel
theorem dX2_sail_64 : decode cX2_sail 64 = .ok (.getfield 9, 3) := by decide +kernel
theorem dX2_sail_67 : decode cX2_sail 67 = .ok (.bipush 6, 2) := by decide +kernel
theorem dX2_sail_69 : decode cX2_sail 69 = .ok (.iload 4, 2) := by decide +kernel
theorem dX2_sail_71 : decode cX2_sail 71 = .ok (.imul, 1) := by decide +kernel
theorem dX2_sail_72 : decode cX2_sail 72 = .ok (.iload 5, 2) := by decide +kernel
theorem dX2_sail_74 : decode cX2_sail 74 = .ok (.iadd, 1) := by decide +kernel
theorem dX2_sail_75 : decode cX2_sail 75 = .ok (.aload_n 0, 1) := by decide +kernel
theorem dX2_sail_76 : decode cX2_sail 76 = .ok (.iload 5, 2) := by decide +kernel
theorem dX2_sail_78 : decode cX2_sail 78 = .ok (.invokevirtual 50, 3) := by decide +kernel
theorem dX2_sail_81 : decode cX2_sail 81 = .ok (.iastore, 1) := by decide +kernel
theorem dX2_sail_82 : decode cX2_sail 82 = .ok (.iinc 5 1, 3) := by decide +kernel
theorem dX2_sail_85 : decode cX2_sail 85 = .ok (.goto (-31), 3) := by decide +kernel
theorem dX2_sail_88 : decode cX2_sail 88 = .ok (.return_, 1) := by decide +kernel
theorem dX2_howFar_0 : decode cX2_howFar 0 = .ok (.aload_n 0, 1) := by decide +kernel
theorem dX2_howFar_1 : decode cX2_howFar 1 = .ok (.getfield 18, 3) := by decide +kernel
theorem dX2_howFar_4 : decode cX2_howFar 4 = .ok (.iload_n 1, 1) := by decide +kernel
theorem dX2_howFar_5 : decode cX2_howFar 5 = .ok (.invokevirtual 54, 3) := by decide +kernel
theorem dX2_howFar_8 : decode cX2_howFar 8 = .ok (.ifCond .eq 6, 3) := by decide +kernel
theorem dX2_howFar_11 : decode cX2_howFar 11 = .ok (.bipush 100, 2) := by decide +kernel
theorem dX2_howFar_13 : decode cX2_howFar 13 = .ok (.ireturn, 1) := by decide +kernel
theorem dX2_howFar_14 : decode cX2_howFar 14 = .ok (.aload_n 0, 1) := by decide +kernel
theorem dX2_howFar_15 : decode cX2_howFar 15 = .ok (.getfield 18, 3) := by decide +kernel
theorem dX2_howFar_18 : decode cX2_howFar 18 = .ok (.iload_n 1, 1) := by decide +kernel
theorem dX2_howFar_19 : decode cX2_howFar 19 = .ok (.invokevirtual 58, 3) := by decide +kernel
theorem dX2_howFar_22 : decode cX2_howFar 22 = .ok (.ifCond .eq 7, 3) := by decide +kernel
theorem dX2_howFar_25 : decode cX2_howFar 25 = .ok (.iconst (-1), 1) := by decide +kernel
theorem dX2_howFar_26 : decode cX2_howFar 26 = .ok (.goto 11, 3) := by decide +kernel
theorem dX2_howFar_29 : decode cX2_howFar 29 = .ok (.aload_n 0, 1) := by decide +kernel
theorem dX2_howFar_30 : decode cX2_howFar 30 = .ok (.getfield 18, 3) := by decide +kernel
theorem dX2_howFar_33 : decode cX2_howFar 33 = .ok (.iload_n 1, 1) := by decide +kernel
theorem dX2_howFar_34 : decode cX2_howFar 34 = .ok (.invokevirtual 61, 3) := by decide +kernel
theorem dX2_howFar_37 : decode cX2_howFar 37 = .ok (.ireturn, 1) := by decide +kernel
theorem dX2_isRest_0 : decode cX2_isRest 0 = .ok (.iconst 0, 1) := by decide +kernel
theorem dX2_isRest_1 : decode cX2_isRest 1 = .ok (.istore_n 3, 1) := by decide +kernel
theorem dX2_isRest_2 : decode cX2_isRest 2 = .ok (.iload_n 3, 1) := by decide +kernel
theorem dX2_isRest_3 : decode cX2_isRest 3 = .ok (.bipush 6, 2) := by decide +kernel
theorem dX2_isRest_5 : decode cX2_isRest 5 = .ok (.if_icmp .ge 65, 3) := by decide +kernel
theorem dX2_isRest_8 : decode cX2_isRest 8 = .ok (.iload_n 2, 1) := by decide +kernel
theorem dX2_isRest_9 : decode cX2_isRest 9 = .ok (.iconst 1, 1) := by decide +kernel
theorem dX2_isRest_10 : decode cX2_isRest 10 = .ok (.iload_n 3, 1) := by decide +kernel
theorem dX2_isRest_11 : decode cX2_isRest 11 = .ok (.ishl, 1) := by decide +kernel
theorem dX2_isRest_12 : decode cX2_isRest 12 = .ok (.ixor, 1) := by decide +kernel
theorem dX2_isRest_13 : decode cX2_isRest 13 = .ok (.istore 4, 2) := by decide +kernel
theorem dX2_isRest_15 : decode cX2_isRest 15 = .ok (.iload_n 1, 1) := by decide +kernel
theorem dX2_isRest_16 : decode cX2_isRest 16 = .ok (.iload_n 3, 1) := by decide +kernel
theorem dX2_isRest_17 : decode cX2_isRest 17 = .ok (.ishr, 1) := by decide +kernel
theorem dX2_isRest_18 : decode cX2_isRest 18 = .ok (.iconst 1, 1) := by decide +kernel
theorem dX2_isRest_19 : decode cX2_isRest 19 = .ok (.iand, 1) := by decide +kernel
theorem dX2_isRest_20 : decode cX2_isRest 20 = .ok (.iconst 1, 1) := by decide +kernel
theorem dX2_isRest_21 : decode cX2_isRest 21 = .ok (.if_icmp .ne 7, 3) := by decide +kernel
theorem dX2_isRest_24 : decode cX2_isRest 24 = .ok (.iconst 1, 1) := by decide +kernel
theorem dX2_isRest_25 : decode cX2_isRest 25 = .ok (.goto 4, 3) := by decide +kernel
theorem dX2_isRest_28 : decode cX2_isRest 28 = .ok (.iconst 0, 1) := by decide +kernel
theorem dX2_isRest_29 : decode cX2_isRest 29 = .ok (.istore 5, 2) := by decide +kernel
theorem dX2_isRest_31 : decode cX2_isRest 31 = .ok (.iload 5, 2) := by decide +kernel
theorem dX2_isRest_33 : decode cX2_isRest 33 = .ok (.ifCond .eq 31, 3) := by decide +kernel
theorem dX2_isRest_36 : decode cX2_isRest 36 = .ok (.aload_n 0, 1) := by decide +kernel
theorem dX2_isRest_37 : decode cX2_isRest 37 = .ok (.getfield 9, 3) := by decide +kernel
theorem dX2_isRest_40 : decode cX2_isRest 40 = .ok (.bipush 6, 2) := by decide +kernel
theorem dX2_isRest_42 : decode cX2_isRest 42 = .ok (.iload 4, 2) := by decide +kernel
theorem dX2_isRest_44 : decode cX2_isRest 44 = .ok (.imul, 1) := by decide +kernel
theorem dX2_isRest_45 : decode cX2_isRest 45 = .ok (.iload_n 3, 1) := by decide +kernel
theorem dX2_isRest_46 : decode cX2_isRest 46 = .ok (.iadd, 1) := by decide +kernel
theorem dX2_isRest_47 : decode cX2_isRest 47 = .ok (.iaload, 1) := by decide +kernel
theorem dX2_isRest_48 : decode cX2_isRest 48 = .ok (.aload_n 0, 1) := by decide +kernel
theorem dX2_isRest_49 : decode cX2_isRest 49 = .ok (.getfield 9, 3) := by decide +kernel
theorem dX2_isRest_52 : decode cX2_isRest 52 = .ok (.bipush 6, 2) := by decide +kernel
theorem dX2_isRest_54 : decode cX2_isRest 54 = .ok (.iload_n 2, 1) := by decide +kernel
theorem dX2_isRest_55 : decode cX2_isRest 55 = .ok (.imul, 1) := by decide +kernel
theorem dX2_isRest_56 : decode cX2_isRest 56 = .ok (.iload_n 3, 1) := by decide +kernel
theorem dX2_isRest_57 : decode cX2_isRest 57 = .ok (.iadd, 1) := by decide +kernel
theorem dX2_isRest_58 : decode cX2_isRest 58 = .ok (.iaload, 1) := by decide +kernel
theorem dX2_isRest_59 : decode cX2_isRest 59 = .ok (.if_icmp .le 5, 3) := by decide +kernel
theorem dX2_isRest_62 : decode cX2_isRest 62 = .ok (.iconst 0, 1) := by decide +kernel
theorem dX2_isRest_63 : decode cX2_isRest 63 = .ok (.ireturn, 1) := by decide +kernel
theorem dX2_isRest_64 : decode cX2_isRest 64 = .ok (.iinc 3 1, 3) := by decide +kernel
theorem dX2_isRest_67 : decode cX2_isRest 67 = .ok (.goto (-65), 3) := by decide +kernel
theorem dX2_isRest_70 : decode cX2_isRest 70 = .ok (.iconst 1, 1) := by decide +kernel
theorem dX2_isRest_71 : decode cX2_isRest 71 = .ok (.ireturn, 1) := by decide +kernel
theorem dX3_clear_0 : decode cX3_clear 0 = .ok (.aload_n 0, 1) := by decide +kernel
theorem dX3_clear_1 : decode cX3_clear 1 = .ok (.iconst 0, 1) := by decide +kernel
theorem dX3_clear_2 : decode cX3_clear 2 = .ok (.putfield 9, 3) := by decide +kernel
theorem dX3_clear_5 : decode cX3_clear 5 = .ok (.return_, 1) := by decide +kernel
theorem dX3_keep_0 : decode cX3_keep 0 = .ok (.aload_n 0, 1) := by decide +kernel
theorem dX3_keep_1 : decode cX3_keep 1 = .ok (.getfield 17, 3) := by decide +kernel
theorem dX3_keep_4 : decode cX3_keep 4 = .ok (.aload_n 0, 1) := by decide +kernel
theorem dX3_keep_5 : decode cX3_keep 5 = .ok (.getfield 21, 3) := by decide +kernel
theorem dX3_keep_8 : decode cX3_keep 8 = .ok (.aaload, 1) := by decide +kernel
theorem dX3_keep_9 : decode cX3_keep 9 = .ok (.aload_n 1, 1) := by decide +kernel
theorem dX3_keep_10 : decode cX3_keep 10 = .ok (.invokevirtual 25, 3) := by decide +kernel
theorem dX3_keep_13 : decode cX3_keep 13 = .ok (.aload_n 0, 1) := by decide +kernel
theorem dX3_keep_14 : decode cX3_keep 14 = .ok (.aload_n 0, 1) := by decide +kernel
theorem dX3_keep_15 : decode cX3_keep 15 = .ok (.getfield 21, 3) := by decide +kernel
theorem dX3_keep_18 : decode cX3_keep 18 = .ok (.iconst 1, 1) := by decide +kernel
theorem dX3_keep_19 : decode cX3_keep 19 = .ok (.iadd, 1) := by decide +kernel
theorem dX3_keep_20 : decode cX3_keep 20 = .ok (.bipush 30, 2) := by decide +kernel
theorem dX3_keep_22 : decode cX3_keep 22 = .ok (.irem, 1) := by decide +kernel
theorem dX3_keep_23 : decode cX3_keep 23 = .ok (.putfield 21, 3) := by decide +kernel
theorem dX3_keep_26 : decode cX3_keep 26 = .ok (.aload_n 0, 1) := by decide +kernel
theorem dX3_keep_27 : decode cX3_keep 27 = .ok (.bipush 30, 2) := by decide +kernel
theorem dX3_keep_29 : decode cX3_keep 29 = .ok (.aload_n 0, 1) := by decide +kernel
theorem dX3_keep_30 : decode cX3_keep 30 = .ok (.getfield 9, 3) := by decide +kernel
theorem dX3_keep_33 : decode cX3_keep 33 = .ok (.iconst 1, 1) := by decide +kernel
theorem dX3_keep_34 : decode cX3_keep 34 = .ok (.iadd, 1) := by decide +kernel
theorem dX3_keep_35 : decode cX3_keep 35 = .ok (.invokestatic 29, 3) := by decide +kernel
theorem dX3_keep_38 : decode cX3_keep 38 = .ok (.putfield 9, 3) := by decide +kernel
theorem dX3_keep_41 : decode cX3_keep 41 = .ok (.return_, 1) := by decide +kernel
theorem dX3_giveBack_0 : decode cX3_giveBack 0 = .ok (.aload_n 0, 1) := by decide +kernel
theorem dX3_giveBack_1 : decode cX3_giveBack 1 = .ok (.getfield 9, 3) := by decide +kernel
theorem dX3_giveBack_4 : decode cX3_giveBack 4 = .ok (.ifCond .ne 5, 3) := by decide +kernel
theorem dX3_giveBack_7 : decode cX3_giveBack 7 = .ok (.iconst 0, 1) := by decide +kernel
theorem dX3_giveBack_8 : decode cX3_giveBack 8 = .ok (.ireturn, 1) := by decide +kernel
theorem dX3_giveBack_9 : decode cX3_giveBack 9 = .ok (.aload_n 0, 1) := by decide +kernel
theorem dX3_giveBack_10 : decode cX3_giveBack 10 = .ok (.aload_n 0, 1) := by decide +kernel
theorem dX3_giveBack_11 : decode cX3_giveBack 11 = .ok (.getfield 21, 3) := by decide +kernel
theorem dX3_giveBack_14 : decode cX3_giveBack 14 = .ok (.bipush 30, 2) := by decide +kernel
theorem dX3_giveBack_16 : decode cX3_giveBack 16 = .ok (.iadd, 1) := by decide +kernel
theorem dX3_giveBack_17 : decode cX3_giveBack 17 = .ok (.iconst 1, 1) := by decide +kernel
theorem dX3_giveBack_18 : decode cX3_giveBack 18 = .ok (.isub, 1) := by decide +kernel
theorem dX3_giveBack_19 : decode cX3_giveBack 19 = .ok (.bipush 30, 2) := by decide +kernel
theorem dX3_giveBack_21 : decode cX3_giveBack 21 = .ok (.irem, 1) := by decide +kernel
theorem dX3_giveBack_22 : decode cX3_giveBack 22 = .ok (.putfield 21, 3) := by decide +kernel
theorem dX3_giveBack_25 : decode cX3_giveBack 25 = .ok (.aload_n 0, 1) := by decide +kernel
theorem dX3_giveBack_26 : decode cX3_giveBack 26 = .ok (.dup, 1) := by decide +kernel
theorem dX3_giveBack_27 : decode cX3_giveBack 27 = .ok (.getfield 9, 3) := by decide +kernel
theorem dX3_giveBack_30 : decode cX3_giveBack 30 = .ok (.iconst 1, 1) := by decide +kernel
theorem dX3_giveBack_31 : decode cX3_giveBack 31 = .ok (.isub, 1) := by decide +kernel
theorem dX3_giveBack_32 : decode cX3_giveBack 32 = .ok (.putfield 9, 3) := by decide +kernel
theorem dX3_giveBack_35 : decode cX3_giveBack 35 = .ok (.aload_n 1, 1) := by decide +kernel
theorem dX3_giveBack_36 : decode cX3_giveBack 36 = .ok (.aload_n 0, 1) := by decide +kernel
theorem dX3_giveBack_37 : decode cX3_giveBack 37 = .ok (.getfield 17, 3) := by decide +kernel
theorem dX3_giveBack_40 : decode cX3_giveBack 40 = .ok (.aload_n 0, 1) := by decide +kernel
theorem dX3_giveBack_41 : decode cX3_giveBack 41 = .ok (.getfield 21, 3) := by decide +kernel
theorem dX3_giveBack_44 : decode cX3_giveBack 44 = .ok (.aaload, 1) := by decide +kernel
theorem dX3_giveBack_45 : decode cX3_giveBack 45 = .ok (.invokevirtual 25, 3) := by decide +kernel
theorem dX3_giveBack_48 : decode cX3_giveBack 48 = .ok (.iconst 1, 1) := by decide +kernel
theorem dX3_giveBack_49 : decode cX3_giveBack 49 = .ok (.ireturn, 1) := by decide +kernel
theorem dX4_addBytes_0 : decode cX4_addBytes 0 = .ok (.bipush 24, 2) := by decide +kernel
theorem dX4_addBytes_2 : decode cX4_addBytes 2 = .ok (.istore_n 2, 1) := by decide +kernel
theorem dX4_addBytes_3 : decode cX4_addBytes 3 = .ok (.iload_n 2, 1) := by decide +kernel
theorem dX4_addBytes_4 : decode cX4_addBytes 4 = .ok (.ifCond .lt 42, 3) := by decide +kernel
theorem dX4_addBytes_7 : decode cX4_addBytes 7 = .ok (.aload_n 0, 1) := by decide +kernel
theorem dX4_addBytes_8 : decode cX4_addBytes 8 = .ok (.getfield 15, 3) := by decide +kernel
theorem dX4_addBytes_11 : decode cX4_addBytes 11 = .ok (.sipush 2000, 3) := by decide +kernel
theorem dX4_addBytes_14 : decode cX4_addBytes 14 = .ok (.if_icmp .ge 32, 3) := by decide +kernel
theorem dX4_addBytes_17 : decode cX4_addBytes 17 = .ok (.aload_n 0, 1) := by decide +kernel
theorem dX4_addBytes_18 : decode cX4_addBytes 18 = .ok (.getfield 9, 3) := by decide +kernel
theorem dX4_addBytes_21 : decode cX4_addBytes 21 = .ok (.aload_n 0, 1) := by decide +kernel
theorem dX4_addBytes_22 : decode cX4_addBytes 22 = .ok (.getfield 15, 3) := by decide +kernel
theorem dX4_addBytes_25 : decode cX4_addBytes 25 = .ok (.iload_n 1, 1) := by decide +kernel
theorem dX4_addBytes_26 : decode cX4_addBytes 26 = .ok (.iload_n 2, 1) := by decide +kernel
theorem dX4_addBytes_27 : decode cX4_addBytes 27 = .ok (.iushr, 1) := by decide +kernel
theorem dX4_addBytes_28 : decode cX4_addBytes 28 = .ok (.i2b, 1) := by decide +kernel
theorem dX4_addBytes_29 : decode cX4_addBytes 29 = .ok (.bastore, 1) := by decide +kernel
theorem dX4_addBytes_30 : decode cX4_addBytes 30 = .ok (.aload_n 0, 1) := by decide +kernel
theorem dX4_addBytes_31 : decode cX4_addBytes 31 = .ok (.dup, 1) := by decide +kernel
theorem dX4_addBytes_32 : decode cX4_addBytes 32 = .ok (.getfield 15, 3) := by decide +kernel
theorem dX4_addBytes_35 : decode cX4_addBytes 35 = .ok (.iconst 1, 1) := by decide +kernel
theorem dX4_addBytes_36 : decode cX4_addBytes 36 = .ok (.iadd, 1) := by decide +kernel
theorem dX4_addBytes_37 : decode cX4_addBytes 37 = .ok (.putfield 15, 3) := by decide +kernel
theorem dX4_addBytes_40 : decode cX4_addBytes 40 = .ok (.iinc 2 (-8), 3) := by decide +kernel
theorem dX4_addBytes_43 : decode cX4_addBytes 43 = .ok (.goto (-40), 3) := by decide +kernel
theorem dX4_addBytes_46 : decode cX4_addBytes 46 = .ok (.return_, 1) := by decide +kernel
theorem dX4_parse_0 : decode cX4_parse 0 = .ok (.aload_n 0, 1) := by decide +kernel
theorem dX4_parse_1 : decode cX4_parse 1 = .ok (.iconst 0, 1) := by decide +kernel
theorem dX4_parse_2 : decode cX4_parse 2 = .ok (.putfield 29, 3) := by decide +kernel
theorem dX4_parse_5 : decode cX4_parse 5 = .ok (.aload_n 0, 1) := by decide +kernel
theorem dX4_parse_6 : decode cX4_parse 6 = .ok (.iconst (-1), 1) := by decide +kernel
theorem dX4_parse_7 : decode cX4_parse 7 = .ok (.putfield 26, 3) := by decide +kernel
theorem dX4_parse_10 : decode cX4_parse 10 = .ok (.aload_n 0, 1) := by decide +kernel
theorem dX4_parse_11 : decode cX4_parse 11 = .ok (.iconst 0, 1) := by decide +kernel
theorem dX4_parse_12 : decode cX4_parse 12 = .ok (.putfield 32, 3) := by decide +kernel
theorem dX4_parse_15 : decode cX4_parse 15 = .ok (.aload_n 0, 1) := by decide +kernel
theorem dX4_parse_16 : decode cX4_parse 16 = .ok (.iconst (-1), 1) := by decide +kernel
theorem dX4_parse_17 : decode cX4_parse 17 = .ok (.putfield 35, 3) := by decide +kernel
theorem dX4_parse_20 : decode cX4_parse 20 = .ok (.aload_n 0, 1) := by decide +kernel
theorem dX4_parse_21 : decode cX4_parse 21 = .ok (.iconst 0, 1) := by decide +kernel
theorem dX4_parse_22 : decode cX4_parse 22 = .ok (.putfield 48, 3) := by decide +kernel
theorem dX4_parse_25 : decode cX4_parse 25 = .ok (.aload_n 0, 1) := by decide +kernel
theorem dX4_parse_26 : decode cX4_parse 26 = .ok (.getfield 22, 3) := by decide +kernel
theorem dX4_parse_29 : decode cX4_parse 29 = .ok (.invokevirtual 51, 3) := by decide +kernel
theorem dX4_parse_32 : decode cX4_parse 32 = .ok (.aload_n 0, 1) := by decide +kernel
theorem dX4_parse_33 : decode cX4_parse 33 = .ok (.invokevirtual 54, 3) := by decide +kernel
theorem dX4_parse_36 : decode cX4_parse 36 = .ok (.iconst 0, 1) := by decide +kernel
theorem dX4_parse_37 : decode cX4_parse 37 = .ok (.istore_n 1, 1) := by decide +kernel
theorem dX4_parse_38 : decode cX4_parse 38 = .ok (.iload_n 1, 1) := by decide +kernel
theorem dX4_parse_39 : decode cX4_parse 39 = .ok (.sipush 400, 3) := by decide +kernel
theorem dX4_parse_42 : decode cX4_parse 42 = .ok (.if_icmp .ge 32, 3) := by decide +kernel
theorem dX4_parse_45 : decode cX4_parse 45 = .ok (.aload_n 0, 1) := by decide +kernel
theorem dX4_parse_46 : decode cX4_parse 46 = .ok (.getfield 29, 3) := by decide +kernel
theorem dX4_parse_49 : decode cX4_parse 49 = .ok (.ifCond .ne 25, 3) := by decide +kernel
theorem dX4_parse_52 : decode cX4_parse 52 = .ok (.aload_n 0, 1) := by decide +kernel
theorem dX4_parse_53 : decode cX4_parse 53 = .ok (.getfield 38, 3) := by decide +kernel
theorem dX4_parse_56 : decode cX4_parse 56 = .ok (.aload_n 0, 1) := by decide +kernel
theorem dX4_parse_57 : decode cX4_parse 57 = .ok (.getfield 48, 3) := by decide +kernel
theorem dX4_parse_60 : decode cX4_parse 60 = .ok (.iaload, 1) := by decide +kernel
theorem dX4_parse_61 : decode cX4_parse 61 = .ok (.ifCond .eq 13, 3) := by decide +kernel
theorem dX4_parse_64 : decode cX4_parse 64 = .ok (.aload_n 0, 1) := by decide +kernel
theorem dX4_parse_65 : decode cX4_parse 65 = .ok (.invokevirtual 57, 3) := by decide +kernel
theorem dX4_parse_68 : decode cX4_parse 68 = .ok (.iinc 1 1, 3) := by decide +kernel
theorem dX4_parse_71 : decode cX4_parse 71 = .ok (.goto (-33), 3) := by decide +kernel
theorem dX4_parse_74 : decode cX4_parse 74 = .ok (.aload_n 0, 1) := by decide +kernel
theorem dX4_parse_75 : decode cX4_parse 75 = .ok (.getfield 22, 3) := by decide +kernel
theorem dX4_parse_78 : decode cX4_parse 78 = .ok (.invokevirtual 60, 3) := by decide +kernel
theorem dX4_parse_81 : decode cX4_parse 81 = .ok (.ifCond .ne 13, 3) := by decide +kernel
theorem dX4_parse_84 : decode cX4_parse 84 = .ok (.aload_n 0, 1) := by decide +kernel
theorem dX4_parse_85 : decode cX4_parse 85 = .ok (.bipush 6, 2) := by decide +kernel
theorem dX4_parse_87 : decode cX4_parse 87 = .ok (.aload_n 0, 1) := by decide +kernel
theorem dX4_parse_88 : decode cX4_parse 88 = .ok (.getfield 15, 3) := by decide +kernel
theorem dX4_parse_91 : decode cX4_parse 91 = .ok (.invokevirtual 64, 3) := by decide +kernel
theorem dX4_parse_94 : decode cX4_parse 94 = .ok (.aload_n 0, 1) := by decide +kernel
theorem dX4_parse_95 : decode cX4_parse 95 = .ok (.getfield 29, 3) := by decide +kernel
theorem dX4_parse_98 : decode cX4_parse 98 = .ok (.ifCond .ne 19, 3) := by decide +kernel
theorem dX4_parse_101 : decode cX4_parse 101 = .ok (.aload_n 0, 1) := by decide +kernel
theorem dX4_parse_102 : decode cX4_parse 102 = .ok (.aload_n 0, 1) := by decide +kernel
theorem dX4_parse_103 : decode cX4_parse 103 = .ok (.getfield 32, 3) := by decide +kernel
theorem dX4_parse_106 : decode cX4_parse 106 = .ok (.putfield 29, 3) := by decide +kernel
theorem dX4_parse_109 : decode cX4_parse 109 = .ok (.aload_n 0, 1) := by decide +kernel
theorem dX4_parse_110 : decode cX4_parse 110 = .ok (.aload_n 0, 1) := by decide +kernel
theorem dX4_parse_111 : decode cX4_parse 111 = .ok (.getfield 35, 3) := by decide +kernel
theorem dX4_parse_114 : decode cX4_parse 114 = .ok (.putfield 26, 3) := by decide +kernel
theorem dX4_parse_117 : decode cX4_parse 117 = .ok (.aload_n 0, 1) := by decide +kernel
theorem dX4_parse_118 : decode cX4_parse 118 = .ok (.getfield 29, 3) := by decide +kernel
theorem dX4_parse_121 : decode cX4_parse 121 = .ok (.ireturn, 1) := by decide +kernel
theorem dX4_scan_0 : decode cX4_scan 0 = .ok (.iconst 0, 1) := by decide +kernel
theorem dX4_scan_1 : decode cX4_scan 1 = .ok (.istore_n 1, 1) := by decide +kernel
theorem dX4_scan_2 : decode cX4_scan 2 = .ok (.iconst 0, 1) := by decide +kernel
theorem dX4_scan_3 : decode cX4_scan 3 = .ok (.istore_n 2, 1) := by decide +kernel
theorem dX4_scan_4 : decode cX4_scan 4 = .ok (.iload_n 2, 1) := by decide +kernel
theorem dX4_scan_5 : decode cX4_scan 5 = .ok (.sipush 400, 3) := by decide +kernel
theorem dX4_scan_8 : decode cX4_scan 8 = .ok (.if_icmp .gt 49, 3) := by decide +kernel
theorem dX4_scan_11 : decode cX4_scan 11 = .ok (.aload_n 0, 1) := by decide +kernel
theorem dX4_scan_12 : decode cX4_scan 12 = .ok (.iload_n 1, 1) := by decide +kernel
theorem dX4_scan_13 : decode cX4_scan 13 = .ok (.invokevirtual 68, 3) := by decide +kernel
theorem dX4_scan_16 : decode cX4_scan 16 = .ok (.istore_n 1, 1) := by decide +kernel
theorem dX4_scan_17 : decode cX4_scan 17 = .ok (.aload_n 0, 1) := by decide +kernel
theorem dX4_scan_18 : decode cX4_scan 18 = .ok (.getfield 42, 3) := by decide +kernel
theorem dX4_scan_21 : decode cX4_scan 21 = .ok (.iload_n 2, 1) := by decide +kernel
theorem dX4_scan_22 : decode cX4_scan 22 = .ok (.iload_n 1, 1) := by decide +kernel
theorem dX4_scan_23 : decode cX4_scan 23 = .ok (.iastore, 1) := by decide +kernel
theorem dX4_scan_24 : decode cX4_scan 24 = .ok (.aload_n 0, 1) := by decide +kernel
theorem dX4_scan_25 : decode cX4_scan 25 = .ok (.iload_n 2, 1) := by decide +kernel
theorem dX4_scan_26 : decode cX4_scan 26 = .ok (.iload_n 1, 1) := by decide +kernel
theorem dX4_scan_27 : decode cX4_scan 27 = .ok (.invokevirtual 72, 3) := by decide +kernel
theorem dX4_scan_30 : decode cX4_scan 30 = .ok (.istore_n 1, 1) := by decide +kernel
theorem dX4_scan_31 : decode cX4_scan 31 = .ok (.aload_n 0, 1) := by decide +kernel
theorem dX4_scan_32 : decode cX4_scan 32 = .ok (.getfield 38, 3) := by decide +kernel
theorem dX4_scan_35 : decode cX4_scan 35 = .ok (.iload_n 2, 1) := by decide +kernel
theorem dX4_scan_36 : decode cX4_scan 36 = .ok (.iaload, 1) := by decide +kernel
theorem dX4_scan_37 : decode cX4_scan 37 = .ok (.ifCond .eq 13, 3) := by decide +kernel
theorem dX4_scan_40 : decode cX4_scan 40 = .ok (.aload_n 0, 1) := by decide +kernel
theorem dX4_scan_41 : decode cX4_scan 41 = .ok (.getfield 38, 3) := by decide +kernel
theorem dX4_scan_44 : decode cX4_scan 44 = .ok (.iload_n 2, 1) := by decide +kernel
theorem dX4_scan_45 : decode cX4_scan 45 = .ok (.iaload, 1) := by decide +kernel
theorem dX4_scan_46 : decode cX4_scan 46 = .ok (.iconst 1, 1) := by decide +kernel
theorem dX4_scan_47 : decode cX4_scan 47 = .ok (.if_icmp .ne 4, 3) := by decide +kernel
theorem dX4_scan_50 : decode cX4_scan 50 = .ok (.return_, 1) := by decide +kernel
theorem dX4_scan_51 : decode cX4_scan 51 = .ok (.iinc 2 1, 3) := by decide +kernel
theorem dX4_scan_54 : decode cX4_scan 54 = .ok (.goto (-50), 3) := by decide +kernel
theorem dX4_scan_57 : decode cX4_scan 57 = .ok (.return_, 1) := by decide +kernel
theorem dX4_behindBlanks_0 : decode cX4_behindBlanks 0 = .ok (.iload_n 1, 1) := by decide +kernel
theorem dX4_behindBlanks_1 : decode cX4_behindBlanks 1 = .ok (.istore_n 2, 1) := by decide +kernel
theorem dX4_behindBlanks_2 : decode cX4_behindBlanks 2 = .ok (.iload_n 2, 1) := by decide +kernel
theorem dX4_behindBlanks_3 : decode cX4_behindBlanks 3 = .ok (.aload_n 0, 1) := by decide +kernel
theorem dX4_behindBlanks_4 : decode cX4_behindBlanks 4 = .ok (.getfield 15, 3) := by decide +kernel
theorem dX4_behindBlanks_7 : decode cX4_behindBlanks 7 = .ok (.if_icmp .ge 21, 3) := by decide +kernel
theorem dX4_behindBlanks_10 : decode cX4_behindBlanks 10 = .ok (.aload_n 0, 1) := by decide +kernel
theorem dX4_behindBlanks_11 : decode cX4_behindBlanks 11 = .ok (.getfield 9, 3) := by decide +kernel
theorem dX4_behindBlanks_14 : decode cX4_behindBlanks 14 = .ok (.iload_n 2, 1) := by decide +kernel
theorem dX4_behindBlanks_15 : decode cX4_behindBlanks 15 = .ok (.baload, 1) := by decide +kernel
theorem dX4_behindBlanks_16 : decode cX4_behindBlanks 16 = .ok (.invokestatic 76, 3) := by decide +kernel
theorem dX4_behindBlanks_19 : decode cX4_behindBlanks 19 = .ok (.ifCond .eq 9, 3) := by decide +kernel
theorem dX4_behindBlanks_22 : decode cX4_behindBlanks 22 = .ok (.iinc 2 1, 3) := by decide +kernel
theorem dX4_behindBlanks_25 : decode cX4_behindBlanks 25 = .ok (.goto (-23), 3) := by decide +kernel
theorem dX4_behindBlanks_28 : decode cX4_behindBlanks 28 = .ok (.iload_n 2, 1) := by decide +kernel
theorem dX4_behindBlanks_29 : decode cX4_behindBlanks 29 = .ok (.ireturn, 1) := by decide +kernel
theorem dX4_isBlank_0 : decode cX4_isBlank 0 = .ok (.iload_n 0, 1) := by decide +kernel
theorem dX4_isBlank_1 : decode cX4_isBlank 1 = .ok (.bipush 9, 2) := by decide +kernel
theorem dX4_isBlank_3 : decode cX4_isBlank 3 = .ok (.if_icmp .eq 21, 3) := by decide +kernel
theorem dX4_isBlank_6 : decode cX4_isBlank 6 = .ok (.iload_n 0, 1) := by decide +kernel
theorem dX4_isBlank_7 : decode cX4_isBlank 7 = .ok (.bipush 10, 2) := by decide +kernel
theorem dX4_isBlank_9 : decode cX4_isBlank 9 = .ok (.if_icmp .eq 15, 3) := by decide +kernel
theorem dX4_isBlank_12 : decode cX4_isBlank 12 = .ok (.iload_n 0, 1) := by decide +kernel
theorem dX4_isBlank_13 : decode cX4_isBlank 13 = .ok (.bipush 13, 2) := by decide +kernel
theorem dX4_isBlank_15 : decode cX4_isBlank 15 = .ok (.if_icmp .eq 9, 3) := by decide +kernel
theorem dX4_isBlank_18 : decode cX4_isBlank 18 = .ok (.iload_n 0, 1) := by decide +kernel
theorem dX4_isBlank_19 : decode cX4_isBlank 19 = .ok (.bipush 32, 2) := by decide +kernel
theorem dX4_isBlank_21 : decode cX4_isBlank 21 = .ok (.if_icmp .ne 7, 3) := by decide +kernel
theorem dX4_isBlank_24 : decode cX4_isBlank 24 = .ok (.iconst 1, 1) := by decide +kernel
theorem dX4_isBlank_25 : decode cX4_isBlank 25 = .ok (.goto 4, 3) := by decide +kernel
theorem dX4_isBlank_28 : decode cX4_isBlank 28 = .ok (.iconst 0, 1) := by decide +kernel
theorem dX4_isBlank_29 : decode cX4_isBlank 29 = .ok (.ireturn, 1) := by decide +kernel
theorem dX4_scanToken_0 : decode cX4_scanToken 0 = .ok (.iload_n 2, 1) := by decide +kernel
theorem dX4_scanToken_1 : decode cX4_scanToken 1 = .ok (.aload_n 0, 1) := by decide +kernel
theorem dX4_scanToken_2 : decode cX4_scanToken 2 = .ok (.getfield 15, 3) := by decide +kernel
theorem dX4_scanToken_5 : decode cX4_scanToken 5 = .ok (.if_icmp .lt 12, 3) := by decide +kernel
theorem dX4_scanToken_8 : decode cX4_scanToken 8 = .ok (.aload_n 0, 1) := by decide +kernel
theorem dX4_scanToken_9 : decode cX4_scanToken 9 = .ok (.getfield 38, 3) := by decide +kernel
theorem dX4_scanToken_12 : decode cX4_scanToken 12 = .ok (.iload_n 1, 1) := by decide +kernel
theorem dX4_scanToken_13 : decode cX4_scanToken 13 = .ok (.iconst 0, 1) := by decide +kernel
theorem dX4_scanToken_14 : decode cX4_scanToken 14 = .ok (.iastore, 1) := by decide +kernel
theorem dX4_scanToken_15 : decode cX4_scanToken 15 = .ok (.iload_n 2, 1) := by decide +kernel
theorem dX4_scanToken_16 : decode cX4_scanToken 16 = .ok (.ireturn, 1) := by decide +kernel
theorem dX4_scanToken_17 : decode cX4_scanToken 17 = .ok (.aload_n 0, 1) := by decide +kernel
theorem dX4_scanToken_18 : decode cX4_scanToken 18 = .ok (.iload_n 2, 1) := by decide +kernel
theorem dX4_scanToken_19 : decode cX4_scanToken 19 = .ok (.bipush 97, 2) := by decide +kernel
theorem dX4_scanToken_21 : decode cX4_scanToken 21 = .ok (.bipush 122, 2) := by decide +kernel
theorem dX4_scanToken_23 : decode cX4_scanToken 23 = .ok (.invokevirtual 80, 3) := by decide +kernel
theorem dX4_scanToken_26 : decode cX4_scanToken 26 = .ok (.istore_n 3, 1) := by decide +kernel
theorem dX4_scanToken_27 : decode cX4_scanToken 27 = .ok (.iload_n 3, 1) := by decide +kernel
theorem dX4_scanToken_28 : decode cX4_scanToken 28 = .ok (.ifCond .le 36, 3) := by decide +kernel
theorem dX4_scanToken_31 : decode cX4_scanToken 31 = .ok (.aload_n 0, 1) := by decide +kernel
theorem dX4_scanToken_32 : decode cX4_scanToken 32 = .ok (.getfield 38, 3) := by decide +kernel
theorem dX4_scanToken_35 : decode cX4_scanToken 35 = .ok (.iload_n 1, 1) := by decide +kernel
theorem dX4_scanToken_36 : decode cX4_scanToken 36 = .ok (.iload_n 3, 1) := by decide +kernel
theorem dX4_scanToken_37 : decode cX4_scanToken 37 = .ok (.bipush 8, 2) := by decide +kernel
theorem dX4_scanToken_39 : decode cX4_scanToken 39 = .ok (.if_icmp .le 7, 3) := by decide +kernel
theorem dX4_scanToken_42 : decode cX4_scanToken 42 = .ok (.iconst 1, 1) := by decide +kernel
theorem dX4_scanToken_43 : decode cX4_scanToken 43 = .ok (.goto 9, 3) := by decide +kernel
theorem dX4_scanToken_46 : decode cX4_scanToken 46 = .ok (.aload_n 0, 1) := by decide +kernel
theorem dX4_scanToken_47 : decode cX4_scanToken 47 = .ok (.iload_n 2, 1) := by decide +kernel
theorem dX4_scanToken_48 : decode cX4_scanToken 48 = .ok (.iload_n 3, 1) := by decide +kernel
theorem dX4_scanToken_49 : decode cX4_scanToken 49 = .ok (.invokevirtual 84, 3) := by decide +kernel
theorem dX4_scanToken_52 : decode cX4_scanToken 52 = .ok (.iastore, 1) := by decide +kernel
theorem dX4_scanToken_53 : decode cX4_scanToken 53 = .ok (.aload_n 0, 1) := by decide +kernel
theorem dX4_scanToken_54 : decode cX4_scanToken 54 = .ok (.getfield 45, 3) := by decide +kernel
theorem dX4_scanToken_57 : decode cX4_scanToken 57 = .ok (.iload_n 1, 1) := by decide +kernel
theorem dX4_scanToken_58 : decode cX4_scanToken 58 = .ok (.iload_n 3, 1) := by decide +kernel
theorem dX4_scanToken_59 : decode cX4_scanToken 59 = .ok (.iastore, 1) := by decide +kernel
theorem dX4_scanToken_60 : decode cX4_scanToken 60 = .ok (.iload_n 2, 1) := by decide +kernel
theorem dX4_scanToken_61 : decode cX4_scanToken 61 = .ok (.iload_n 3, 1) := by decide +kernel
theorem dX4_scanToken_62 : decode cX4_scanToken 62 = .ok (.iadd, 1) := by decide +kernel
theorem dX4_scanToken_63 : decode cX4_scanToken 63 = .ok (.ireturn, 1) := by decide +kernel
theorem dX4_scanToken_64 : decode cX4_scanToken 64 = .ok (.aload_n 0, 1) := by decide +kernel
theorem dX4_scanToken_65 : decode cX4_scanToken 65 = .ok (.iload_n 2, 1) := by decide +kernel
theorem dX4_scanToken_66 : decode cX4_scanToken 66 = .ok (.bipush 48, 2) := by decide +kernel
theorem dX4_scanToken_68 : decode cX4_scanToken 68 = .ok (.bipush 57, 2) := by decide +kernel
theorem dX4_scanToken_70 : decode cX4_scanToken 70 = .ok (.invokevirtual 80, 3) := by decide +kernel
theorem dX4_scanToken_73 : decode cX4_scanToken 73 = .ok (.istore 4, 2) := by decide +kernel
theorem dX4_scanToken_75 : decode cX4_scanToken 75 = .ok (.iload 4, 2) := by decide +kernel
theorem dX4_scanToken_77 : decode cX4_scanToken 77 = .ok (.ifCond .le 42, 3) := by decide +kernel
theorem dX4_scanToken_80 : decode cX4_scanToken 80 = .ok (.aload_n 0, 1) := by decide +kernel
theorem dX4_scanToken_81 : decode cX4_scanToken 81 = .ok (.getfield 38, 3) := by decide +kernel
theorem dX4_scanToken_84 : decode cX4_scanToken 84 = .ok (.iload_n 1, 1) := by decide +kernel
theorem dX4_scanToken_85 : decode cX4_scanToken 85 = .ok (.iload 4, 2) := by decide +kernel
theorem dX4_scanToken_87 : decode cX4_scanToken 87 = .ok (.iconst 4, 1) := by decide +kernel
theorem dX4_scanToken_88 : decode cX4_scanToken 88 = .ok (.if_icmp .le 7, 3) := by decide +kernel
theorem dX4_scanToken_91 : decode cX4_scanToken 91 = .ok (.iconst 1, 1) := by decide +kernel
theorem dX4_scanToken_92 : decode cX4_scanToken 92 = .ok (.goto 4, 3) := by decide +kernel
theorem dX4_scanToken_95 : decode cX4_scanToken 95 = .ok (.iconst 3, 1) := by decide +kernel
theorem dX4_scanToken_96 : decode cX4_scanToken 96 = .ok (.iastore, 1) := by decide +kernel
theorem dX4_scanToken_97 : decode cX4_scanToken 97 = .ok (.aload_n 0, 1) := by decide +kernel
theorem dX4_scanToken_98 : decode cX4_scanToken 98 = .ok (.getfield 45, 3) := by decide +kernel
theorem dX4_scanToken_101 : decode cX4_scanToken 101 = .ok (.iload_n 1, 1) := by decide +kernel
theorem dX4_scanToken_102 : decode cX4_scanToken 102 = .ok (.aload_n 0, 1) := by decide +kernel
theorem dX4_scanToken_103 : decode cX4_scanToken 103 = .ok (.iload_n 2, 1) := by decide +kernel
theorem dX4_scanToken_104 : decode cX4_scanToken 104 = .ok (.iload 4, 2) := by decide +kernel
theorem dX4_scanToken_106 : decode cX4_scanToken 106 = .ok (.iconst 4, 1) := by decide +kernel
theorem dX4_scanToken_107 : decode cX4_scanToken 107 = .ok (.invokestatic 87, 3) := by decide +kernel
theorem dX4_scanToken_110 : decode cX4_scanToken 110 = .ok (.invokevirtual 92, 3) := by decide +kernel
theorem dX4_scanToken_113 : decode cX4_scanToken 113 = .ok (.iastore, 1) := by decide +kernel
theorem dX4_scanToken_114 : decode cX4_scanToken 114 = .ok (.iload_n 2, 1) := by decide +kernel
theorem dX4_scanToken_115 : decode cX4_scanToken 115 = .ok (.iload 4, 2) := by decide +kernel
theorem dX4_scanToken_117 : decode cX4_scanToken 117 = .ok (.iadd, 1) := by decide +kernel
theorem dX4_scanToken_118 : decode cX4_scanToken 118 = .ok (.ireturn, 1) := by decide +kernel
theorem dX4_scanToken_119 : decode cX4_scanToken 119 = .ok (.ldc 95, 2) := by decide +kernel
theorem dX4_scanToken_121 : decode cX4_scanToken 121 = .ok (.aload_n 0, 1) := by decide +kernel
theorem dX4_scanToken_122 : decode cX4_scanToken 122 = .ok (.getfield 9, 3) := by decide +kernel
theorem dX4_scanToken_125 : decode cX4_scanToken 125 = .ok (.iload_n 2, 1) := by decide +kernel
theorem dX4_scanToken_126 : decode cX4_scanToken 126 = .ok (.baload, 1) := by decide +kernel
theorem dX4_scanToken_127 : decode cX4_scanToken 127 = .ok (.sipush 255, 3) := by decide +kernel
theorem dX4_scanToken_130 : decode cX4_scanToken 130 = .ok (.iand, 1) := by decide +kernel
theorem dX4_scanToken_131 : decode cX4_scanToken 131 = .ok (.i2c, 1) := by decide +kernel
theorem dX4_scanToken_132 : decode cX4_scanToken 132 = .ok (.invokevirtual 97, 3) := by decide +kernel
theorem dX4_scanToken_135 : decode cX4_scanToken 135 = .ok (.istore 5, 2) := by decide +kernel
theorem dX4_scanToken_137 : decode cX4_scanToken 137 = .ok (.aload_n 0, 1) := by decide +kernel
theorem dX4_scanToken_138 : decode cX4_scanToken 138 = .ok (.getfield 38, 3) := by decide +kernel
theorem dX4_scanToken_141 : decode cX4_scanToken 141 = .ok (.iload_n 1, 1) := by decide +kernel
theorem dX4_scanToken_142 : decode cX4_scanToken 142 = .ok (.iload 5, 2) := by decide +kernel
theorem dX4_scanToken_144 : decode cX4_scanToken 144 = .ok (.ifCond .ge 7, 3) := by decide +kernel
theorem dX4_scanToken_147 : decode cX4_scanToken 147 = .ok (.iconst 1, 1) := by decide +kernel
theorem dX4_scanToken_148 : decode cX4_scanToken 148 = .ok (.goto 8, 3) := by decide +kernel
theorem dX4_scanToken_151 : decode cX4_scanToken 151 = .ok (.bipush 23, 2) := by decide +kernel
theorem dX4_scanToken_153 : decode cX4_scanToken 153 = .ok (.iload 5, 2) := by decide +kernel
theorem dX4_scanToken_155 : decode cX4_scanToken 155 = .ok (.iadd, 1) := by decide +kernel
theorem dX4_scanToken_156 : decode cX4_scanToken 156 = .ok (.iastore, 1) := by decide +kernel
theorem dX4_scanToken_157 : decode cX4_scanToken 157 = .ok (.iload_n 2, 1) := by decide +kernel
theorem dX4_scanToken_158 : decode cX4_scanToken 158 = .ok (.iconst 1, 1) := by decide +kernel
theorem dX4_scanToken_159 : decode cX4_scanToken 159 = .ok (.iadd, 1) := by decide +kernel
theorem dX4_scanToken_160 : decode cX4_scanToken 160 = .ok (.ireturn, 1) := by decide +kernel
theorem dX4_runOf_0 : decode cX4_runOf 0 = .ok (.iload_n 1, 1) := by decide +kernel
theorem dX4_runOf_1 : decode cX4_runOf 1 = .ok (.istore 4, 2) := by decide +kernel
theorem dX4_runOf_3 : decode cX4_runOf 3 = .ok (.iload 4, 2) := by decide +kernel
theorem dX4_runOf_5 : decode cX4_runOf 5 = .ok (.aload_n 0, 1) := by decide +kernel
theorem dX4_runOf_6 : decode cX4_runOf 6 = .ok (.getfield 15, 3) := by decide +kernel
theorem dX4_runOf_9 : decode cX4_runOf 9 = .ok (.if_icmp .ge 31, 3) := by decide +kernel
theorem dX4_runOf_12 : decode cX4_runOf 12 = .ok (.aload_n 0, 1) := by decide +kernel
theorem dX4_runOf_13 : decode cX4_runOf 13 = .ok (.getfield 9, 3) := by decide +kernel
theorem dX4_runOf_16 : decode cX4_runOf 16 = .ok (.iload 4, 2) := by decide +kernel
theorem dX4_runOf_18 : decode cX4_runOf 18 = .ok (.baload, 1) := by decide +kernel
theorem dX4_runOf_19 : decode cX4_runOf 19 = .ok (.iload_n 2, 1) := by decide +kernel
theorem dX4_runOf_20 : decode cX4_runOf 20 = .ok (.if_icmp .lt 20, 3) := by decide +kernel
theorem dX4_runOf_23 : decode cX4_runOf 23 = .ok (.aload_n 0, 1) := by decide +kernel
theorem dX4_runOf_24 : decode cX4_runOf 24 = .ok (.getfield 9, 3) := by decide +kernel
theorem dX4_runOf_27 : decode cX4_runOf 27 = .ok (.iload 4, 2) := by decide +kernel
theorem dX4_runOf_29 : decode cX4_runOf 29 = .ok (.baload, 1) := by decide +kernel
theorem dX4_runOf_30 : decode cX4_runOf 30 = .ok (.iload_n 3, 1) := by decide +kernel
theorem dX4_runOf_31 : decode cX4_runOf 31 = .ok (.if_icmp .gt 9, 3) := by decide +kernel
theorem dX4_runOf_34 : decode cX4_runOf 34 = .ok (.iinc 4 1, 3) := by decide +kernel
theorem dX4_runOf_37 : decode cX4_runOf 37 = .ok (.goto (-34), 3) := by decide +kernel
theorem dX4_runOf_40 : decode cX4_runOf 40 = .ok (.iload 4, 2) := by decide +kernel
theorem dX4_runOf_42 : decode cX4_runOf 42 = .ok (.iload_n 1, 1) := by decide +kernel
theorem dX4_runOf_43 : decode cX4_runOf 43 = .ok (.isub, 1) := by decide +kernel
theorem dX4_runOf_44 : decode cX4_runOf 44 = .ok (.ireturn, 1) := by decide +kernel
theorem dX4_kindOfWord_0 : decode cX4_kindOfWord 0 = .ok (.iconst 0, 1) := by decide +kernel
theorem dX4_kindOfWord_1 : decode cX4_kindOfWord 1 = .ok (.istore_n 3, 1) := by decide +kernel
theorem dX4_kindOfWord_2 : decode cX4_kindOfWord 2 = .ok (.iload_n 3, 1) := by decide +kernel
theorem dX4_kindOfWord_3 : decode cX4_kindOfWord 3 = .ok (.bipush 19, 2) := by decide +kernel
theorem dX4_kindOfWord_5 : decode cX4_kindOfWord 5 = .ok (.if_icmp .ge 23, 3) := by decide +kernel
theorem dX4_kindOfWord_8 : decode cX4_kindOfWord 8 = .ok (.aload_n 0, 1) := by decide +kernel
theorem dX4_kindOfWord_9 : decode cX4_kindOfWord 9 = .ok (.iload_n 3, 1) := by decide +kernel
theorem dX4_kindOfWord_10 : decode cX4_kindOfWord 10 = .ok (.iload_n 1, 1) := by decide +kernel
theorem dX4_kindOfWord_11 : decode cX4_kindOfWord 11 = .ok (.iload_n 2, 1) := by decide +kernel
theorem dX4_kindOfWord_12 : decode cX4_kindOfWord 12 = .ok (.invokevirtual 102, 3) := by decide +kernel
theorem dX4_kindOfWord_15 : decode cX4_kindOfWord 15 = .ok (.ifCond .eq 7, 3) := by decide +kernel
theorem dX4_kindOfWord_18 : decode cX4_kindOfWord 18 = .ok (.iconst 4, 1) := by decide +kernel
theorem dX4_kindOfWord_19 : decode cX4_kindOfWord 19 = .ok (.iload_n 3, 1) := by decide +kernel
theorem dX4_kindOfWord_20 : decode cX4_kindOfWord 20 = .ok (.iadd, 1) := by decide +kernel
theorem dX4_kindOfWord_21 : decode cX4_kindOfWord 21 = .ok (.ireturn, 1) := by decide +kernel
theorem dX4_kindOfWord_22 : decode cX4_kindOfWord 22 = .ok (.iinc 3 1, 3) := by decide +kernel
theorem dX4_kindOfWord_25 : decode cX4_kindOfWord 25 = .ok (.goto (-23), 3) := by decide +kernel
theorem dX4_kindOfWord_28 : decode cX4_kindOfWord 28 = .ok (.iconst 2, 1) := by decide +kernel
theorem dX4_kindOfWord_29 : decode cX4_kindOfWord 29 = .ok (.ireturn, 1) := by decide +kernel
theorem dX4_isWord_0 : decode cX4_isWord 0 = .ok (.iconst 0, 1) := by decide +kernel
theorem dX4_isWord_1 : decode cX4_isWord 1 = .ok (.istore 4, 2) := by decide +kernel
theorem dX4_isWord_3 : decode cX4_isWord 3 = .ok (.iload 4, 2) := by decide +kernel
theorem dX4_isWord_5 : decode cX4_isWord 5 = .ok (.bipush 8, 2) := by decide +kernel
theorem dX4_isWord_7 : decode cX4_isWord 7 = .ok (.if_icmp .ge 51, 3) := by decide +kernel
theorem dX4_isWord_10 : decode cX4_isWord 10 = .ok (.iload 4, 2) := by decide +kernel
theorem dX4_isWord_12 : decode cX4_isWord 12 = .ok (.iload_n 3, 1) := by decide +kernel
theorem dX4_isWord_13 : decode cX4_isWord 13 = .ok (.if_icmp .ge 16, 3) := by decide +kernel
theorem dX4_isWord_16 : decode cX4_isWord 16 = .ok (.aload_n 0, 1) := by decide +kernel
theorem dX4_isWord_17 : decode cX4_isWord 17 = .ok (.getfield 9, 3) := by decide +kernel
theorem dX4_isWord_20 : decode cX4_isWord 20 = .ok (.iload_n 2, 1) := by decide +kernel
theorem dX4_isWord_21 : decode cX4_isWord 21 = .ok (.iload 4, 2) := by decide +kernel
theorem dX4_isWord_23 : decode cX4_isWord 23 = .ok (.iadd, 1) := by decide +kernel
theorem dX4_isWord_24 : decode cX4_isWord 24 = .ok (.baload, 1) := by decide +kernel
theorem dX4_isWord_25 : decode cX4_isWord 25 = .ok (.i2c, 1) := by decide +kernel
theorem dX4_isWord_26 : decode cX4_isWord 26 = .ok (.goto 5, 3) := by decide +kernel
theorem dX4_isWord_29 : decode cX4_isWord 29 = .ok (.bipush 32, 2) := by decide +kernel
theorem dX4_isWord_31 : decode cX4_isWord 31 = .ok (.istore 5, 2) := by decide +kernel
theorem dX4_isWord_33 : decode cX4_isWord 33 = .ok (.ldc 106, 2) := by decide +kernel
theorem dX4_isWord_35 : decode cX4_isWord 35 = .ok (.bipush 8, 2) := by decide +kernel
theorem dX4_isWord_37 : decode cX4_isWord 37 = .ok (.iload_n 1, 1) := by decide +kernel
theorem dX4_isWord_38 : decode cX4_isWord 38 = .ok (.imul, 1) := by decide +kernel
theorem dX4_isWord_39 : decode cX4_isWord 39 = .ok (.iload 4, 2) := by decide +kernel
theorem dX4_isWord_41 : decode cX4_isWord 41 = .ok (.iadd, 1) := by decide +kernel
theorem dX4_isWord_42 : decode cX4_isWord 42 = .ok (.invokevirtual 108, 3) := by decide +kernel
theorem dX4_isWord_45 : decode cX4_isWord 45 = .ok (.iload 5, 2) := by decide +kernel
theorem dX4_isWord_47 : decode cX4_isWord 47 = .ok (.if_icmp .eq 5, 3) := by decide +kernel
theorem dX4_isWord_50 : decode cX4_isWord 50 = .ok (.iconst 0, 1) := by decide +kernel
theorem dX4_isWord_51 : decode cX4_isWord 51 = .ok (.ireturn, 1) := by decide +kernel
theorem dX4_isWord_52 : decode cX4_isWord 52 = .ok (.iinc 4 1, 3) := by decide +kernel
theorem dX4_isWord_55 : decode cX4_isWord 55 = .ok (.goto (-52), 3) := by decide +kernel
theorem dX4_isWord_58 : decode cX4_isWord 58 = .ok (.iconst 1, 1) := by decide +kernel
theorem dX4_isWord_59 : decode cX4_isWord 59 = .ok (.ireturn, 1) := by decide +kernel
theorem dX4_numberAt_0 : decode cX4_numberAt 0 = .ok (.iconst 0, 1) := by decide +kernel
theorem dX4_numberAt_1 : decode cX4_numberAt 1 = .ok (.istore_n 3, 1) := by decide +kernel
theorem dX4_numberAt_2 : decode cX4_numberAt 2 = .ok (.iconst 0, 1) := by decide +kernel
theorem dX4_numberAt_3 : decode cX4_numberAt 3 = .ok (.istore 4, 2) := by decide +kernel
theorem dX4_numberAt_5 : decode cX4_numberAt 5 = .ok (.iload 4, 2) := by decide +kernel
theorem dX4_numberAt_7 : decode cX4_numberAt 7 = .ok (.iload_n 2, 1) := by decide +kernel
theorem dX4_numberAt_8 : decode cX4_numberAt 8 = .ok (.if_icmp .ge 27, 3) := by decide +kernel
theorem dX4_numberAt_11 : decode cX4_numberAt 11 = .ok (.bipush 10, 2) := by decide +kernel
theorem dX4_numberAt_13 : decode cX4_numberAt 13 = .ok (.iload_n 3, 1) := by decide +kernel
theorem dX4_numberAt_14 : decode cX4_numberAt 14 = .ok (.imul, 1) := by decide +kernel
theorem dX4_numberAt_15 : decode cX4_numberAt 15 = .ok (.aload_n 0, 1) := by decide +kernel
theorem dX4_numberAt_16 : decode cX4_numberAt 16 = .ok (.getfield 9, 3) := by decide +kernel
theorem dX4_numberAt_19 : decode cX4_numberAt 19 = .ok (.iload_n 1, 1) := by decide +kernel
theorem dX4_numberAt_20 : decode cX4_numberAt 20 = .ok (.iload 4, 2) := by decide +kernel
theorem dX4_numberAt_22 : decode cX4_numberAt 22 = .ok (.iadd, 1) := by decide +kernel
theorem dX4_numberAt_23 : decode cX4_numberAt 23 = .ok (.baload, 1) := by decide +kernel
theorem dX4_numberAt_24 : decode cX4_numberAt 24 = .ok (.iadd, 1) := by decide +kernel
theorem dX4_numberAt_25 : decode cX4_numberAt 25 = .ok (.bipush 48, 2) := by decide +kernel
theorem dX4_numberAt_27 : decode cX4_numberAt 27 = .ok (.isub, 1) := by decide +kernel
theorem dX4_numberAt_28 : decode cX4_numberAt 28 = .ok (.istore_n 3, 1) := by decide +kernel
theorem dX4_numberAt_29 : decode cX4_numberAt 29 = .ok (.iinc 4 1, 3) := by decide +kernel
theorem dX4_numberAt_32 : decode cX4_numberAt 32 = .ok (.goto (-27), 3) := by decide +kernel
theorem dX4_numberAt_35 : decode cX4_numberAt 35 = .ok (.iload_n 3, 1) := by decide +kernel
theorem dX4_numberAt_36 : decode cX4_numberAt 36 = .ok (.ireturn, 1) := by decide +kernel
theorem dX4_fail_0 : decode cX4_fail 0 = .ok (.aload_n 0, 1) := by decide +kernel
theorem dX4_fail_1 : decode cX4_fail 1 = .ok (.getfield 29, 3) := by decide +kernel
theorem dX4_fail_4 : decode cX4_fail 4 = .ok (.ifCond .ne 21, 3) := by decide +kernel
theorem dX4_fail_7 : decode cX4_fail 7 = .ok (.aload_n 0, 1) := by decide +kernel
theorem dX4_fail_8 : decode cX4_fail 8 = .ok (.iload_n 1, 1) := by decide +kernel
theorem dX4_fail_9 : decode cX4_fail 9 = .ok (.putfield 29, 3) := by decide +kernel
theorem dX4_fail_12 : decode cX4_fail 12 = .ok (.aload_n 0, 1) := by decide +kernel
theorem dX4_fail_13 : decode cX4_fail 13 = .ok (.aload_n 0, 1) := by decide +kernel
theorem dX4_fail_14 : decode cX4_fail 14 = .ok (.getfield 42, 3) := by decide +kernel
theorem dX4_fail_17 : decode cX4_fail 17 = .ok (.aload_n 0, 1) := by decide +kernel
theorem dX4_fail_18 : decode cX4_fail 18 = .ok (.getfield 48, 3) := by decide +kernel
theorem dX4_fail_21 : decode cX4_fail 21 = .ok (.iaload, 1) := by decide +kernel
theorem dX4_fail_22 : decode cX4_fail 22 = .ok (.putfield 26, 3) := by decide +kernel
theorem dX4_fail_25 : decode cX4_fail 25 = .ok (.return_, 1) := by decide +kernel
theorem dX4_addFlaw_0 : decode cX4_addFlaw 0 = .ok (.aload_n 0, 1) := by decide +kernel
theorem dX4_addFlaw_1 : decode cX4_addFlaw 1 = .ok (.getfield 32, 3) := by decide +kernel
theorem dX4_addFlaw_4 : decode cX4_addFlaw 4 = .ok (.ifCond .ne 13, 3) := by decide +kernel
theorem dX4_addFlaw_7 : decode cX4_addFlaw 7 = .ok (.aload_n 0, 1) := by decide +kernel
theorem dX4_addFlaw_8 : decode cX4_addFlaw 8 = .ok (.iload_n 1, 1) := by decide +kernel
theorem dX4_addFlaw_9 : decode cX4_addFlaw 9 = .ok (.putfield 32, 3) := by decide +kernel
theorem dX4_addFlaw_12 : decode cX4_addFlaw 12 = .ok (.aload_n 0, 1) := by decide +kernel
theorem dX4_addFlaw_13 : decode cX4_addFlaw 13 = .ok (.iload_n 2, 1) := by decide +kernel
theorem dX4_addFlaw_14 : decode cX4_addFlaw 14 = .ok (.putfield 35, 3) := by decide +kernel
theorem dX4_addFlaw_17 : decode cX4_addFlaw 17 = .ok (.return_, 1) := by decide +kernel
theorem dX4_need_0 : decode cX4_need 0 = .ok (.aload_n 0, 1) := by decide +kernel
theorem dX4_need_1 : decode cX4_need 1 = .ok (.getfield 29, 3) := by decide +kernel
theorem dX4_need_4 : decode cX4_need 4 = .ok (.ifCond .ne 38, 3) := by decide +kernel
theorem dX4_need_7 : decode cX4_need 7 = .ok (.aload_n 0, 1) := by decide +kernel
theorem dX4_need_8 : decode cX4_need 8 = .ok (.getfield 38, 3) := by decide +kernel
theorem dX4_need_11 : decode cX4_need 11 = .ok (.aload_n 0, 1) := by decide +kernel
theorem dX4_need_12 : decode cX4_need 12 = .ok (.getfield 48, 3) := by decide +kernel
theorem dX4_need_15 : decode cX4_need 15 = .ok (.iaload, 1) := by decide +kernel
theorem dX4_need_16 : decode cX4_need 16 = .ok (.iload_n 1, 1) := by decide +kernel
theorem dX4_need_17 : decode cX4_need 17 = .ok (.if_icmp .ne 25, 3) := by decide +kernel
theorem dX4_need_20 : decode cX4_need 20 = .ok (.aload_n 0, 1) := by decide +kernel
theorem dX4_need_21 : decode cX4_need 21 = .ok (.getfield 48, 3) := by decide +kernel
theorem dX4_need_24 : decode cX4_need 24 = .ok (.sipush 400, 3) := by decide +kernel
theorem dX4_need_27 : decode cX4_need 27 = .ok (.if_icmp .ge 15, 3) := by decide +kernel
theorem dX4_need_30 : decode cX4_need 30 = .ok (.aload_n 0, 1) := by decide +kernel
theorem dX4_need_31 : decode cX4_need 31 = .ok (.dup, 1) := by decide +kernel
theorem dX4_need_32 : decode cX4_need 32 = .ok (.getfield 48, 3) := by decide +kernel
theorem dX4_need_35 : decode cX4_need 35 = .ok (.iconst 1, 1) := by decide +kernel
theorem dX4_need_36 : decode cX4_need 36 = .ok (.iadd, 1) := by decide +kernel
theorem dX4_need_37 : decode cX4_need 37 = .ok (.putfield 48, 3) := by decide +kernel
theorem dX4_need_40 : decode cX4_need 40 = .ok (.iconst 1, 1) := by decide +kernel
theorem dX4_need_41 : decode cX4_need 41 = .ok (.ireturn, 1) := by decide +kernel
theorem dX4_need_42 : decode cX4_need 42 = .ok (.aload_n 0, 1) := by decide +kernel
theorem dX4_need_43 : decode cX4_need 43 = .ok (.getfield 29, 3) := by decide +kernel
theorem dX4_need_46 : decode cX4_need 46 = .ok (.ifCond .ne 38, 3) := by decide +kernel
theorem dX4_need_49 : decode cX4_need 49 = .ok (.aload_n 0, 1) := by decide +kernel
theorem dX4_need_50 : decode cX4_need 50 = .ok (.aload_n 0, 1) := by decide +kernel
theorem dX4_need_51 : decode cX4_need 51 = .ok (.getfield 38, 3) := by decide +kernel
theorem dX4_need_54 : decode cX4_need 54 = .ok (.aload_n 0, 1) := by decide +kernel
theorem dX4_need_55 : decode cX4_need 55 = .ok (.getfield 48, 3) := by decide +kernel
theorem dX4_need_58 : decode cX4_need 58 = .ok (.iaload, 1) := by decide +kernel
theorem dX4_need_59 : decode cX4_need 59 = .ok (.iload_n 1, 1) := by decide +kernel
theorem dX4_need_60 : decode cX4_need 60 = .ok (.if_icmp .ne 7, 3) := by decide +kernel
theorem dX4_need_63 : decode cX4_need 63 = .ok (.iconst 2, 1) := by decide +kernel
theorem dX4_need_64 : decode cX4_need 64 = .ok (.goto 4, 3) := by decide +kernel
theorem dX4_need_67 : decode cX4_need 67 = .ok (.iconst 1, 1) := by decide +kernel
theorem dX4_need_68 : decode cX4_need 68 = .ok (.putfield 29, 3) := by decide +kernel
theorem dX4_need_71 : decode cX4_need 71 = .ok (.aload_n 0, 1) := by decide +kernel
theorem dX4_need_72 : decode cX4_need 72 = .ok (.aload_n 0, 1) := by decide +kernel
theorem dX4_need_73 : decode cX4_need 73 = .ok (.getfield 42, 3) := by decide +kernel
theorem dX4_need_76 : decode cX4_need 76 = .ok (.aload_n 0, 1) := by decide +kernel
theorem dX4_need_77 : decode cX4_need 77 = .ok (.getfield 48, 3) := by decide +kernel
theorem dX4_need_80 : decode cX4_need 80 = .ok (.iaload, 1) := by decide +kernel
theorem dX4_need_81 : decode cX4_need 81 = .ok (.putfield 26, 3) := by decide +kernel
theorem dX4_need_84 : decode cX4_need 84 = .ok (.iconst 0, 1) := by decide +kernel
theorem dX4_need_85 : decode cX4_need 85 = .ok (.ireturn, 1) := by decide +kernel
theorem dX4_tellOne_0 : decode cX4_tellOne 0 = .ok (.aload_n 0, 1) := by decide +kernel
theorem dX4_tellOne_1 : decode cX4_tellOne 1 = .ok (.getfield 38, 3) := by decide +kernel
theorem dX4_tellOne_4 : decode cX4_tellOne 4 = .ok (.aload_n 0, 1) := by decide +kernel
theorem dX4_tellOne_5 : decode cX4_tellOne 5 = .ok (.getfield 48, 3) := by decide +kernel
theorem dX4_tellOne_8 : decode cX4_tellOne 8 = .ok (.iaload, 1) := by decide +kernel
theorem dX4_tellOne_9 : decode cX4_tellOne 9 = .ok (.tableswitch 146 4 10 #[43, 50, 57, 71, 85, 99, 122], 43) := by decide +kernel
theorem dX4_tellOne_52 : decode cX4_tellOne 52 = .ok (.aload_n 0, 1) := by decide +kernel
theorem dX4_tellOne_53 : decode cX4_tellOne 53 = .ok (.invokevirtual 112, 3) := by decide +kernel
theorem dX4_tellOne_56 : decode cX4_tellOne 56 = .ok (.goto 104, 3) := by decide +kernel
theorem dX4_tellOne_59 : decode cX4_tellOne 59 = .ok (.aload_n 0, 1) := by decide +kernel
theorem dX4_tellOne_60 : decode cX4_tellOne 60 = .ok (.invokevirtual 115, 3) := by decide +kernel
theorem dX4_tellOne_63 : decode cX4_tellOne 63 = .ok (.goto 97, 3) := by decide +kernel
theorem dX4_tellOne_66 : decode cX4_tellOne 66 = .ok (.aload_n 0, 1) := by decide +kernel
theorem dX4_tellOne_67 : decode cX4_tellOne 67 = .ok (.aload_n 0, 1) := by decide +kernel
theorem dX4_tellOne_68 : decode cX4_tellOne 68 = .ok (.getfield 22, 3) := by decide +kernel
theorem dX4_tellOne_71 : decode cX4_tellOne 71 = .ok (.getfield 118, 3) := by decide +kernel
theorem dX4_tellOne_74 : decode cX4_tellOne 74 = .ok (.invokevirtual 122, 3) := by decide +kernel
theorem dX4_tellOne_77 : decode cX4_tellOne 77 = .ok (.goto 83, 3) := by decide +kernel
theorem dX4_tellOne_80 : decode cX4_tellOne 80 = .ok (.aload_n 0, 1) := by decide +kernel
theorem dX4_tellOne_81 : decode cX4_tellOne 81 = .ok (.aload_n 0, 1) := by decide +kernel
theorem dX4_tellOne_82 : decode cX4_tellOne 82 = .ok (.getfield 22, 3) := by decide +kernel
theorem dX4_tellOne_85 : decode cX4_tellOne 85 = .ok (.getfield 126, 3) := by decide +kernel
theorem dX4_tellOne_88 : decode cX4_tellOne 88 = .ok (.invokevirtual 122, 3) := by decide +kernel
theorem dX4_tellOne_91 : decode cX4_tellOne 91 = .ok (.goto 69, 3) := by decide +kernel
theorem dX4_tellOne_94 : decode cX4_tellOne 94 = .ok (.aload_n 0, 1) := by decide +kernel
theorem dX4_tellOne_95 : decode cX4_tellOne 95 = .ok (.aload_n 0, 1) := by decide +kernel
theorem dX4_tellOne_96 : decode cX4_tellOne 96 = .ok (.getfield 22, 3) := by decide +kernel
theorem dX4_tellOne_99 : decode cX4_tellOne 99 = .ok (.getfield 129, 3) := by decide +kernel
theorem dX4_tellOne_102 : decode cX4_tellOne 102 = .ok (.invokevirtual 122, 3) := by decide +kernel
theorem dX4_tellOne_105 : decode cX4_tellOne 105 = .ok (.goto 55, 3) := by decide +kernel
theorem dX4_tellOne_108 : decode cX4_tellOne 108 = .ok (.aload_n 0, 1) := by decide +kernel
theorem dX4_tellOne_109 : decode cX4_tellOne 109 = .ok (.bipush 9, 2) := by decide +kernel
theorem dX4_tellOne_111 : decode cX4_tellOne 111 = .ok (.invokevirtual 132, 3) := by decide +kernel
theorem dX4_tellOne_114 : decode cX4_tellOne 114 = .ok (.pop, 1) := by decide +kernel
theorem dX4_tellOne_115 : decode cX4_tellOne 115 = .ok (.aload_n 0, 1) := by decide +kernel
theorem dX4_tellOne_116 : decode cX4_tellOne 116 = .ok (.getfield 22, 3) := by decide +kernel
theorem dX4_tellOne_119 : decode cX4_tellOne 119 = .ok (.aload_n 0, 1) := by decide +kernel
theorem dX4_tellOne_120 : decode cX4_tellOne 120 = .ok (.bipush 100, 2) := by decide +kernel
theorem dX4_tellOne_122 : decode cX4_tellOne 122 = .ok (.invokevirtual 135, 3) := by decide +kernel
theorem dX4_tellOne_125 : decode cX4_tellOne 125 = .ok (.putfield 138, 3) := by decide +kernel
theorem dX4_tellOne_128 : decode cX4_tellOne 128 = .ok (.goto 32, 3) := by decide +kernel
theorem dX4_tellOne_131 : decode cX4_tellOne 131 = .ok (.aload_n 0, 1) := by decide +kernel
theorem dX4_tellOne_132 : decode cX4_tellOne 132 = .ok (.bipush 10, 2) := by decide +kernel
theorem dX4_tellOne_134 : decode cX4_tellOne 134 = .ok (.invokevirtual 132, 3) := by decide +kernel
theorem dX4_tellOne_137 : decode cX4_tellOne 137 = .ok (.pop, 1) := by decide +kernel
theorem dX4_tellOne_138 : decode cX4_tellOne 138 = .ok (.aload_n 0, 1) := by decide +kernel
theorem dX4_tellOne_139 : decode cX4_tellOne 139 = .ok (.getfield 22, 3) := by decide +kernel
theorem dX4_tellOne_142 : decode cX4_tellOne 142 = .ok (.aload_n 0, 1) := by decide +kernel
theorem dX4_tellOne_143 : decode cX4_tellOne 143 = .ok (.sipush 9999, 3) := by decide +kernel
theorem dX4_tellOne_146 : decode cX4_tellOne 146 = .ok (.invokevirtual 135, 3) := by decide +kernel
theorem dX4_tellOne_149 : decode cX4_tellOne 149 = .ok (.putfield 141, 3) := by decide +kernel
theorem dX4_tellOne_152 : decode cX4_tellOne 152 = .ok (.goto 8, 3) := by decide +kernel
theorem dX4_tellOne_155 : decode cX4_tellOne 155 = .ok (.aload_n 0, 1) := by decide +kernel
theorem dX4_tellOne_156 : decode cX4_tellOne 156 = .ok (.iconst 1, 1) := by decide +kernel
theorem dX4_tellOne_157 : decode cX4_tellOne 157 = .ok (.invokevirtual 144, 3) := by decide +kernel
theorem dX4_tellOne_160 : decode cX4_tellOne 160 = .ok (.aload_n 0, 1) := by decide +kernel
theorem dX4_tellOne_161 : decode cX4_tellOne 161 = .ok (.bipush 23, 2) := by decide +kernel
theorem dX4_tellOne_163 : decode cX4_tellOne 163 = .ok (.invokevirtual 132, 3) := by decide +kernel
theorem dX4_tellOne_166 : decode cX4_tellOne 166 = .ok (.pop, 1) := by decide +kernel
theorem dX4_tellOne_167 : decode cX4_tellOne 167 = .ok (.return_, 1) := by decide +kernel
theorem dX4_number_0 : decode cX4_number 0 = .ok (.aload_n 0, 1) := by decide +kernel
theorem dX4_number_1 : decode cX4_number 1 = .ok (.getfield 48, 3) := by decide +kernel
theorem dX4_number_4 : decode cX4_number 4 = .ok (.istore_n 2, 1) := by decide +kernel
theorem dX4_number_5 : decode cX4_number 5 = .ok (.aload_n 0, 1) := by decide +kernel
theorem dX4_number_6 : decode cX4_number 6 = .ok (.iconst 3, 1) := by decide +kernel
theorem dX4_number_7 : decode cX4_number 7 = .ok (.invokevirtual 132, 3) := by decide +kernel
theorem dX4_number_10 : decode cX4_number 10 = .ok (.ifCond .ne 5, 3) := by decide +kernel
theorem dX4_number_13 : decode cX4_number 13 = .ok (.iconst 0, 1) := by decide +kernel
theorem dX4_number_14 : decode cX4_number 14 = .ok (.ireturn, 1) := by decide +kernel
theorem dX4_number_15 : decode cX4_number 15 = .ok (.aload_n 0, 1) := by decide +kernel
theorem dX4_number_16 : decode cX4_number 16 = .ok (.getfield 45, 3) := by decide +kernel
theorem dX4_number_19 : decode cX4_number 19 = .ok (.iload_n 2, 1) := by decide +kernel
theorem dX4_number_20 : decode cX4_number 20 = .ok (.iaload, 1) := by decide +kernel
theorem dX4_number_21 : decode cX4_number 21 = .ok (.iload_n 1, 1) := by decide +kernel
theorem dX4_number_22 : decode cX4_number 22 = .ok (.if_icmp .le 14, 3) := by decide +kernel
theorem dX4_number_25 : decode cX4_number 25 = .ok (.aload_n 0, 1) := by decide +kernel
theorem dX4_number_26 : decode cX4_number 26 = .ok (.iconst 5, 1) := by decide +kernel
theorem dX4_number_27 : decode cX4_number 27 = .ok (.aload_n 0, 1) := by decide +kernel
theorem dX4_number_28 : decode cX4_number 28 = .ok (.getfield 42, 3) := by decide +kernel
theorem dX4_number_31 : decode cX4_number 31 = .ok (.iload_n 2, 1) := by decide +kernel
theorem dX4_number_32 : decode cX4_number 32 = .ok (.iaload, 1) := by decide +kernel
theorem dX4_number_33 : decode cX4_number 33 = .ok (.invokevirtual 64, 3) := by decide +kernel
theorem dX4_number_36 : decode cX4_number 36 = .ok (.aload_n 0, 1) := by decide +kernel
theorem dX4_number_37 : decode cX4_number 37 = .ok (.getfield 45, 3) := by decide +kernel
theorem dX4_number_40 : decode cX4_number 40 = .ok (.iload_n 2, 1) := by decide +kernel
theorem dX4_number_41 : decode cX4_number 41 = .ok (.iaload, 1) := by decide +kernel
theorem dX4_number_42 : decode cX4_number 42 = .ok (.ireturn, 1) := by decide +kernel
theorem dX4_tellRow_0 : decode cX4_tellRow 0 = .ok (.aload_n 0, 1) := by decide +kernel
theorem dX4_tellRow_1 : decode cX4_tellRow 1 = .ok (.getfield 22, 3) := by decide +kernel
theorem dX4_tellRow_4 : decode cX4_tellRow 4 = .ok (.getfield 148, 3) := by decide +kernel
theorem dX4_tellRow_7 : decode cX4_tellRow 7 = .ok (.iconst 5, 1) := by decide +kernel
theorem dX4_tellRow_8 : decode cX4_tellRow 8 = .ok (.if_icmp .lt 8, 3) := by decide +kernel
theorem dX4_tellRow_11 : decode cX4_tellRow 11 = .ok (.aload_n 0, 1) := by decide +kernel
theorem dX4_tellRow_12 : decode cX4_tellRow 12 = .ok (.iconst 2, 1) := by decide +kernel
theorem dX4_tellRow_13 : decode cX4_tellRow 13 = .ok (.invokevirtual 144, 3) := by decide +kernel
theorem dX4_tellRow_16 : decode cX4_tellRow 16 = .ok (.aload_n 0, 1) := by decide +kernel
theorem dX4_tellRow_17 : decode cX4_tellRow 17 = .ok (.iconst 4, 1) := by decide +kernel
theorem dX4_tellRow_18 : decode cX4_tellRow 18 = .ok (.invokevirtual 132, 3) := by decide +kernel
theorem dX4_tellRow_21 : decode cX4_tellRow 21 = .ok (.pop, 1) := by decide +kernel
theorem dX4_tellRow_22 : decode cX4_tellRow 22 = .ok (.aload_n 0, 1) := by decide +kernel
theorem dX4_tellRow_23 : decode cX4_tellRow 23 = .ok (.getfield 48, 3) := by decide +kernel
theorem dX4_tellRow_26 : decode cX4_tellRow 26 = .ok (.istore_n 1, 1) := by decide +kernel
theorem dX4_tellRow_27 : decode cX4_tellRow 27 = .ok (.aload_n 0, 1) := by decide +kernel
theorem dX4_tellRow_28 : decode cX4_tellRow 28 = .ok (.iconst 2, 1) := by decide +kernel
theorem dX4_tellRow_29 : decode cX4_tellRow 29 = .ok (.invokevirtual 132, 3) := by decide +kernel
theorem dX4_tellRow_32 : decode cX4_tellRow 32 = .ok (.ifCond .eq 19, 3) := by decide +kernel
theorem dX4_tellRow_35 : decode cX4_tellRow 35 = .ok (.aload_n 0, 1) := by decide +kernel
theorem dX4_tellRow_36 : decode cX4_tellRow 36 = .ok (.aload_n 0, 1) := by decide +kernel
theorem dX4_tellRow_37 : decode cX4_tellRow 37 = .ok (.getfield 42, 3) := by decide +kernel
theorem dX4_tellRow_40 : decode cX4_tellRow 40 = .ok (.iload_n 1, 1) := by decide +kernel
theorem dX4_tellRow_41 : decode cX4_tellRow 41 = .ok (.iaload, 1) := by decide +kernel
theorem dX4_tellRow_42 : decode cX4_tellRow 42 = .ok (.aload_n 0, 1) := by decide +kernel
theorem dX4_tellRow_43 : decode cX4_tellRow 43 = .ok (.getfield 45, 3) := by decide +kernel
theorem dX4_tellRow_46 : decode cX4_tellRow 46 = .ok (.iload_n 1, 1) := by decide +kernel
theorem dX4_tellRow_47 : decode cX4_tellRow 47 = .ok (.iaload, 1) := by decide +kernel
theorem dX4_tellRow_48 : decode cX4_tellRow 48 = .ok (.invokevirtual 151, 3) := by decide +kernel
theorem dX4_tellRow_51 : decode cX4_tellRow 51 = .ok (.return_, 1) := by decide +kernel
theorem dX4_addRow_0 : decode cX4_addRow 0 = .ok (.aload_n 0, 1) := by decide +kernel
theorem dX4_addRow_1 : decode cX4_addRow 1 = .ok (.getfield 22, 3) := by decide +kernel
theorem dX4_addRow_4 : decode cX4_addRow 4 = .ok (.getfield 148, 3) := by decide +kernel
theorem dX4_addRow_7 : decode cX4_addRow 7 = .ok (.ifCond .ne 11, 3) := by decide +kernel
theorem dX4_addRow_10 : decode cX4_addRow 10 = .ok (.aload_n 0, 1) := by decide +kernel
theorem dX4_addRow_11 : decode cX4_addRow 11 = .ok (.getfield 22, 3) := by decide +kernel
theorem dX4_addRow_14 : decode cX4_addRow 14 = .ok (.iload_n 2, 1) := by decide +kernel
theorem dX4_addRow_15 : decode cX4_addRow 15 = .ok (.putfield 154, 3) := by decide +kernel
theorem dX4_addRow_18 : decode cX4_addRow 18 = .ok (.iload_n 2, 1) := by decide +kernel
theorem dX4_addRow_19 : decode cX4_addRow 19 = .ok (.aload_n 0, 1) := by decide +kernel
theorem dX4_addRow_20 : decode cX4_addRow 20 = .ok (.getfield 22, 3) := by decide +kernel
theorem dX4_addRow_23 : decode cX4_addRow 23 = .ok (.getfield 154, 3) := by decide +kernel
theorem dX4_addRow_26 : decode cX4_addRow 26 = .ok (.if_icmp .ne 7, 3) := by decide +kernel
theorem dX4_addRow_29 : decode cX4_addRow 29 = .ok (.iconst 1, 1) := by decide +kernel
theorem dX4_addRow_30 : decode cX4_addRow 30 = .ok (.goto 4, 3) := by decide +kernel
theorem dX4_addRow_33 : decode cX4_addRow 33 = .ok (.iconst 0, 1) := by decide +kernel
theorem dX4_addRow_34 : decode cX4_addRow 34 = .ok (.istore_n 3, 1) := by decide +kernel
theorem dX4_addRow_35 : decode cX4_addRow 35 = .ok (.iconst 0, 1) := by decide +kernel
theorem dX4_addRow_36 : decode cX4_addRow 36 = .ok (.istore 4, 2) := by decide +kernel
theorem dX4_addRow_38 : decode cX4_addRow 38 = .ok (.iload 4, 2) := by decide +kernel
theorem dX4_addRow_40 : decode cX4_addRow 40 = .ok (.iload_n 2, 1) := by decide +kernel
theorem dX4_addRow_41 : decode cX4_addRow 41 = .ok (.if_icmp .ge 64, 3) := by decide +kernel
theorem dX4_addRow_44 : decode cX4_addRow 44 = .ok (.ldc 157, 2) := by decide +kernel
theorem dX4_addRow_46 : decode cX4_addRow 46 = .ok (.aload_n 0, 1) := by decide +kernel
theorem dX4_addRow_47 : decode cX4_addRow 47 = .ok (.getfield 9, 3) := by decide +kernel
theorem dX4_addRow_50 : decode cX4_addRow 50 = .ok (.iload_n 1, 1) := by decide +kernel
theorem dX4_addRow_51 : decode cX4_addRow 51 = .ok (.iload 4, 2) := by decide +kernel
theorem dX4_addRow_53 : decode cX4_addRow 53 = .ok (.iadd, 1) := by decide +kernel
theorem dX4_addRow_54 : decode cX4_addRow 54 = .ok (.baload, 1) := by decide +kernel
theorem dX4_addRow_55 : decode cX4_addRow 55 = .ok (.i2c, 1) := by decide +kernel
theorem dX4_addRow_56 : decode cX4_addRow 56 = .ok (.invokevirtual 97, 3) := by decide +kernel
theorem dX4_addRow_59 : decode cX4_addRow 59 = .ok (.istore 5, 2) := by decide +kernel
theorem dX4_addRow_61 : decode cX4_addRow 61 = .ok (.iload_n 3, 1) := by decide +kernel
theorem dX4_addRow_62 : decode cX4_addRow 62 = .ok (.ifCond .eq 12, 3) := by decide +kernel
theorem dX4_addRow_65 : decode cX4_addRow 65 = .ok (.iload 5, 2) := by decide +kernel
theorem dX4_addRow_67 : decode cX4_addRow 67 = .ok (.ifCond .lt 7, 3) := by decide +kernel
theorem dX4_addRow_70 : decode cX4_addRow 70 = .ok (.iconst 1, 1) := by decide +kernel
theorem dX4_addRow_71 : decode cX4_addRow 71 = .ok (.goto 4, 3) := by decide +kernel
theorem dX4_addRow_74 : decode cX4_addRow 74 = .ok (.iconst 0, 1) := by decide +kernel
theorem dX4_addRow_75 : decode cX4_addRow 75 = .ok (.istore_n 3, 1) := by decide +kernel
theorem dX4_addRow_76 : decode cX4_addRow 76 = .ok (.aload_n 0, 1) := by decide +kernel
theorem dX4_addRow_77 : decode cX4_addRow 77 = .ok (.getfield 22, 3) := by decide +kernel
theorem dX4_addRow_80 : decode cX4_addRow 80 = .ok (.getfield 159, 3) := by decide +kernel
theorem dX4_addRow_83 : decode cX4_addRow 83 = .ok (.bipush 8, 2) := by decide +kernel
theorem dX4_addRow_85 : decode cX4_addRow 85 = .ok (.aload_n 0, 1) := by decide +kernel
theorem dX4_addRow_86 : decode cX4_addRow 86 = .ok (.getfield 22, 3) := by decide +kernel
theorem dX4_addRow_89 : decode cX4_addRow 89 = .ok (.getfield 148, 3) := by decide +kernel
theorem dX4_addRow_92 : decode cX4_addRow 92 = .ok (.imul, 1) := by decide +kernel
theorem dX4_addRow_93 : decode cX4_addRow 93 = .ok (.iload 4, 2) := by decide +kernel
theorem dX4_addRow_95 : decode cX4_addRow 95 = .ok (.iadd, 1) := by decide +kernel
theorem dX4_addRow_96 : decode cX4_addRow 96 = .ok (.iload 5, 2) := by decide +kernel
theorem dX4_addRow_98 : decode cX4_addRow 98 = .ok (.iastore, 1) := by decide +kernel
theorem dX4_addRow_99 : decode cX4_addRow 99 = .ok (.iinc 4 1, 3) := by decide +kernel
theorem dX4_addRow_102 : decode cX4_addRow 102 = .ok (.goto (-64), 3) := by decide +kernel
theorem dX4_addRow_105 : decode cX4_addRow 105 = .ok (.aload_n 0, 1) := by decide +kernel
theorem dX4_addRow_106 : decode cX4_addRow 106 = .ok (.getfield 22, 3) := by decide +kernel
theorem dX4_addRow_109 : decode cX4_addRow 109 = .ok (.dup, 1) := by decide +kernel
theorem dX4_addRow_110 : decode cX4_addRow 110 = .ok (.getfield 148, 3) := by decide +kernel
theorem dX4_addRow_113 : decode cX4_addRow 113 = .ok (.iconst 1, 1) := by decide +kernel
theorem dX4_addRow_114 : decode cX4_addRow 114 = .ok (.iadd, 1) := by decide +kernel
theorem dX4_addRow_115 : decode cX4_addRow 115 = .ok (.putfield 148, 3) := by decide +kernel
theorem dX4_addRow_118 : decode cX4_addRow 118 = .ok (.iload_n 3, 1) := by decide +kernel
theorem dX4_addRow_119 : decode cX4_addRow 119 = .ok (.ifCond .ne 10, 3) := by decide +kernel
theorem dX4_addRow_122 : decode cX4_addRow 122 = .ok (.aload_n 0, 1) := by decide +kernel
theorem dX4_addRow_123 : decode cX4_addRow 123 = .ok (.bipush 6, 2) := by decide +kernel
theorem dX4_addRow_125 : decode cX4_addRow 125 = .ok (.iload_n 1, 1) := by decide +kernel
theorem dX4_addRow_126 : decode cX4_addRow 126 = .ok (.invokevirtual 64, 3) := by decide +kernel
theorem dX4_addRow_129 : decode cX4_addRow 129 = .ok (.return_, 1) := by decide +kernel
theorem dX4_tellBoat_0 : decode cX4_tellBoat 0 = .ok (.aload_n 0, 1) := by decide +kernel
theorem dX4_tellBoat_1 : decode cX4_tellBoat 1 = .ok (.getfield 22, 3) := by decide +kernel
theorem dX4_tellBoat_4 : decode cX4_tellBoat 4 = .ok (.getfield 160, 3) := by decide +kernel
theorem dX4_tellBoat_7 : decode cX4_tellBoat 7 = .ok (.bipush 6, 2) := by decide +kernel
theorem dX4_tellBoat_9 : decode cX4_tellBoat 9 = .ok (.if_icmp .lt 8, 3) := by decide +kernel
theorem dX4_tellBoat_12 : decode cX4_tellBoat 12 = .ok (.aload_n 0, 1) := by decide +kernel
theorem dX4_tellBoat_13 : decode cX4_tellBoat 13 = .ok (.iconst 2, 1) := by decide +kernel
theorem dX4_tellBoat_14 : decode cX4_tellBoat 14 = .ok (.invokevirtual 144, 3) := by decide +kernel
theorem dX4_tellBoat_17 : decode cX4_tellBoat 17 = .ok (.aload_n 0, 1) := by decide +kernel
theorem dX4_tellBoat_18 : decode cX4_tellBoat 18 = .ok (.iconst 5, 1) := by decide +kernel
theorem dX4_tellBoat_19 : decode cX4_tellBoat 19 = .ok (.invokevirtual 132, 3) := by decide +kernel
theorem dX4_tellBoat_22 : decode cX4_tellBoat 22 = .ok (.pop, 1) := by decide +kernel
theorem dX4_tellBoat_23 : decode cX4_tellBoat 23 = .ok (.aload_n 0, 1) := by decide +kernel
theorem dX4_tellBoat_24 : decode cX4_tellBoat 24 = .ok (.getfield 48, 3) := by decide +kernel
theorem dX4_tellBoat_27 : decode cX4_tellBoat 27 = .ok (.istore_n 1, 1) := by decide +kernel
theorem dX4_tellBoat_28 : decode cX4_tellBoat 28 = .ok (.aload_n 0, 1) := by decide +kernel
theorem dX4_tellBoat_29 : decode cX4_tellBoat 29 = .ok (.iconst 2, 1) := by decide +kernel
theorem dX4_tellBoat_30 : decode cX4_tellBoat 30 = .ok (.invokevirtual 132, 3) := by decide +kernel
theorem dX4_tellBoat_33 : decode cX4_tellBoat 33 = .ok (.ifCond .ne 4, 3) := by decide +kernel
theorem dX4_tellBoat_36 : decode cX4_tellBoat 36 = .ok (.return_, 1) := by decide +kernel
theorem dX4_tellBoat_37 : decode cX4_tellBoat 37 = .ok (.aload_n 0, 1) := by decide +kernel
theorem dX4_tellBoat_38 : decode cX4_tellBoat 38 = .ok (.aload_n 0, 1) := by decide +kernel
theorem dX4_tellBoat_39 : decode cX4_tellBoat 39 = .ok (.getfield 42, 3) := by decide +kernel
theorem dX4_tellBoat_42 : decode cX4_tellBoat 42 = .ok (.iload_n 1, 1) := by decide +kernel
theorem dX4_tellBoat_43 : decode cX4_tellBoat 43 = .ok (.iaload, 1) := by decide +kernel
theorem dX4_tellBoat_44 : decode cX4_tellBoat 44 = .ok (.aload_n 0, 1) := by decide +kernel
theorem dX4_tellBoat_45 : decode cX4_tellBoat 45 = .ok (.getfield 45, 3) := by decide +kernel
theorem dX4_tellBoat_48 : decode cX4_tellBoat 48 = .ok (.iload_n 1, 1) := by decide +kernel
theorem dX4_tellBoat_49 : decode cX4_tellBoat 49 = .ok (.iaload, 1) := by decide +kernel
theorem dX4_tellBoat_50 : decode cX4_tellBoat 50 = .ok (.invokevirtual 163, 3) := by decide +kernel
theorem dX4_tellBoat_53 : decode cX4_tellBoat 53 = .ok (.lstore_n 2, 1) := by decide +kernel
theorem dX4_tellBoat_54 : decode cX4_tellBoat 54 = .ok (.aload_n 0, 1) := by decide +kernel
theorem dX4_tellBoat_55 : decode cX4_tellBoat 55 = .ok (.getfield 22, 3) := by decide +kernel
theorem dX4_tellBoat_58 : decode cX4_tellBoat 58 = .ok (.lload_n 2, 1) := by decide +kernel
theorem dX4_tellBoat_59 : decode cX4_tellBoat 59 = .ok (.invokevirtual 167, 3) := by decide +kernel
theorem dX4_tellBoat_62 : decode cX4_tellBoat 62 = .ok (.ifCond .eq 14, 3) := by decide +kernel
theorem dX4_tellBoat_65 : decode cX4_tellBoat 65 = .ok (.aload_n 0, 1) := by decide +kernel
theorem dX4_tellBoat_66 : decode cX4_tellBoat 66 = .ok (.iconst 3, 1) := by decide +kernel
theorem dX4_tellBoat_67 : decode cX4_tellBoat 67 = .ok (.aload_n 0, 1) := by decide +kernel
theorem dX4_tellBoat_68 : decode cX4_tellBoat 68 = .ok (.getfield 42, 3) := by decide +kernel
theorem dX4_tellBoat_71 : decode cX4_tellBoat 71 = .ok (.iload_n 1, 1) := by decide +kernel
theorem dX4_tellBoat_72 : decode cX4_tellBoat 72 = .ok (.iaload, 1) := by decide +kernel
theorem dX4_tellBoat_73 : decode cX4_tellBoat 73 = .ok (.invokevirtual 64, 3) := by decide +kernel
theorem dX4_tellBoat_76 : decode cX4_tellBoat 76 = .ok (.aload_n 0, 1) := by decide +kernel
theorem dX4_tellBoat_77 : decode cX4_tellBoat 77 = .ok (.bipush 9, 2) := by decide +kernel
theorem dX4_tellBoat_79 : decode cX4_tellBoat 79 = .ok (.invokevirtual 135, 3) := by decide +kernel
theorem dX4_tellBoat_82 : decode cX4_tellBoat 82 = .ok (.istore 4, 2) := by decide +kernel
theorem dX4_tellBoat_84 : decode cX4_tellBoat 84 = .ok (.aload_n 0, 1) := by decide +kernel
theorem dX4_tellBoat_85 : decode cX4_tellBoat 85 = .ok (.bipush 9, 2) := by decide +kernel
theorem dX4_tellBoat_87 : decode cX4_tellBoat 87 = .ok (.invokevirtual 135, 3) := by decide +kernel
theorem dX4_tellBoat_90 : decode cX4_tellBoat 90 = .ok (.istore 5, 2) := by decide +kernel
theorem dX4_tellBoat_92 : decode cX4_tellBoat 92 = .ok (.aload_n 0, 1) := by decide +kernel
theorem dX4_tellBoat_93 : decode cX4_tellBoat 93 = .ok (.bipush 9, 2) := by decide +kernel
theorem dX4_tellBoat_95 : decode cX4_tellBoat 95 = .ok (.invokevirtual 135, 3) := by decide +kernel
theorem dX4_tellBoat_98 : decode cX4_tellBoat 98 = .ok (.istore 6, 2) := by decide +kernel
theorem dX4_tellBoat_100 : decode cX4_tellBoat 100 = .ok (.aload_n 0, 1) := by decide +kernel
theorem dX4_tellBoat_101 : decode cX4_tellBoat 101 = .ok (.bipush 9, 2) := by decide +kernel
theorem dX4_tellBoat_103 : decode cX4_tellBoat 103 = .ok (.invokevirtual 135, 3) := by decide +kernel
theorem dX4_tellBoat_106 : decode cX4_tellBoat 106 = .ok (.istore 7, 2) := by decide +kernel
theorem dX4_tellBoat_108 : decode cX4_tellBoat 108 = .ok (.aload_n 0, 1) := by decide +kernel
theorem dX4_tellBoat_109 : decode cX4_tellBoat 109 = .ok (.getfield 22, 3) := by decide +kernel
theorem dX4_tellBoat_112 : decode cX4_tellBoat 112 = .ok (.getfield 160, 3) := by decide +kernel
theorem dX4_tellBoat_115 : decode cX4_tellBoat 115 = .ok (.istore 8, 2) := by decide +kernel
theorem dX4_tellBoat_117 : decode cX4_tellBoat 117 = .ok (.aload_n 0, 1) := by decide +kernel
theorem dX4_tellBoat_118 : decode cX4_tellBoat 118 = .ok (.getfield 22, 3) := by decide +kernel
theorem dX4_tellBoat_121 : decode cX4_tellBoat 121 = .ok (.getfield 171, 3) := by decide +kernel
theorem dX4_tellBoat_124 : decode cX4_tellBoat 124 = .ok (.iload 8, 2) := by decide +kernel
theorem dX4_tellBoat_126 : decode cX4_tellBoat 126 = .ok (.lload_n 2, 1) := by decide +kernel
theorem dX4_tellBoat_127 : decode cX4_tellBoat 127 = .ok (.lastore, 1) := by decide +kernel
theorem dX4_tellBoat_128 : decode cX4_tellBoat 128 = .ok (.aload_n 0, 1) := by decide +kernel
theorem dX4_tellBoat_129 : decode cX4_tellBoat 129 = .ok (.getfield 22, 3) := by decide +kernel
theorem dX4_tellBoat_132 : decode cX4_tellBoat 132 = .ok (.getfield 175, 3) := by decide +kernel
theorem dX4_tellBoat_135 : decode cX4_tellBoat 135 = .ok (.iload 8, 2) := by decide +kernel
theorem dX4_tellBoat_137 : decode cX4_tellBoat 137 = .ok (.iload 4, 2) := by decide +kernel
theorem dX4_tellBoat_139 : decode cX4_tellBoat 139 = .ok (.iastore, 1) := by decide +kernel
theorem dX4_tellBoat_140 : decode cX4_tellBoat 140 = .ok (.aload_n 0, 1) := by decide +kernel
theorem dX4_tellBoat_141 : decode cX4_tellBoat 141 = .ok (.getfield 22, 3) := by decide +kernel
theorem dX4_tellBoat_144 : decode cX4_tellBoat 144 = .ok (.getfield 178, 3) := by decide +kernel
theorem dX4_tellBoat_147 : decode cX4_tellBoat 147 = .ok (.iload 8, 2) := by decide +kernel
theorem dX4_tellBoat_149 : decode cX4_tellBoat 149 = .ok (.iload 5, 2) := by decide +kernel
theorem dX4_tellBoat_151 : decode cX4_tellBoat 151 = .ok (.iastore, 1) := by decide +kernel
theorem dX4_tellBoat_152 : decode cX4_tellBoat 152 = .ok (.aload_n 0, 1) := by decide +kernel
theorem dX4_tellBoat_153 : decode cX4_tellBoat 153 = .ok (.getfield 22, 3) := by decide +kernel
theorem dX4_tellBoat_156 : decode cX4_tellBoat 156 = .ok (.getfield 181, 3) := by decide +kernel
theorem dX4_tellBoat_159 : decode cX4_tellBoat 159 = .ok (.iload 8, 2) := by decide +kernel
theorem dX4_tellBoat_161 : decode cX4_tellBoat 161 = .ok (.iload 6, 2) := by decide +kernel
theorem dX4_tellBoat_163 : decode cX4_tellBoat 163 = .ok (.iastore, 1) := by decide +kernel
theorem dX4_tellBoat_164 : decode cX4_tellBoat 164 = .ok (.aload_n 0, 1) := by decide +kernel
theorem dX4_tellBoat_165 : decode cX4_tellBoat 165 = .ok (.getfield 22, 3) := by decide +kernel
theorem dX4_tellBoat_168 : decode cX4_tellBoat 168 = .ok (.getfield 184, 3) := by decide +kernel
theorem dX4_tellBoat_171 : decode cX4_tellBoat 171 = .ok (.iload 8, 2) := by decide +kernel
theorem dX4_tellBoat_173 : decode cX4_tellBoat 173 = .ok (.iload 7, 2) := by decide +kernel
theorem dX4_tellBoat_175 : decode cX4_tellBoat 175 = .ok (.iastore, 1) := by decide +kernel
theorem dX4_tellBoat_176 : decode cX4_tellBoat 176 = .ok (.aload_n 0, 1) := by decide +kernel
theorem dX4_tellBoat_177 : decode cX4_tellBoat 177 = .ok (.getfield 22, 3) := by decide +kernel
theorem dX4_tellBoat_180 : decode cX4_tellBoat 180 = .ok (.dup, 1) := by decide +kernel
theorem dX4_tellBoat_181 : decode cX4_tellBoat 181 = .ok (.getfield 160, 3) := by decide +kernel
theorem dX4_tellBoat_184 : decode cX4_tellBoat 184 = .ok (.iconst 1, 1) := by decide +kernel
theorem dX4_tellBoat_185 : decode cX4_tellBoat 185 = .ok (.iadd, 1) := by decide +kernel
theorem dX4_tellBoat_186 : decode cX4_tellBoat 186 = .ok (.putfield 160, 3) := by decide +kernel
theorem dX4_tellBoat_189 : decode cX4_tellBoat 189 = .ok (.return_, 1) := by decide +kernel
theorem dX4_nameAt_0 : decode cX4_nameAt 0 = .ok (.lconst 0, 1) := by decide +kernel
theorem dX4_nameAt_1 : decode cX4_nameAt 1 = .ok (.lstore_n 3, 1) := by decide +kernel
theorem dX4_nameAt_2 : decode cX4_nameAt 2 = .ok (.iconst 0, 1) := by decide +kernel
theorem dX4_nameAt_3 : decode cX4_nameAt 3 = .ok (.istore 5, 2) := by decide +kernel
theorem dX4_nameAt_5 : decode cX4_nameAt 5 = .ok (.iload 5, 2) := by decide +kernel
theorem dX4_nameAt_7 : decode cX4_nameAt 7 = .ok (.iload_n 2, 1) := by decide +kernel
theorem dX4_nameAt_8 : decode cX4_nameAt 8 = .ok (.if_icmp .ge 32, 3) := by decide +kernel
theorem dX4_nameAt_11 : decode cX4_nameAt 11 = .ok (.ldc2_w 187, 3) := by decide +kernel
theorem dX4_nameAt_14 : decode cX4_nameAt 14 = .ok (.lload_n 3, 1) := by decide +kernel
theorem dX4_nameAt_15 : decode cX4_nameAt 15 = .ok (.lmul, 1) := by decide +kernel
theorem dX4_nameAt_16 : decode cX4_nameAt 16 = .ok (.aload_n 0, 1) := by decide +kernel
theorem dX4_nameAt_17 : decode cX4_nameAt 17 = .ok (.getfield 9, 3) := by decide +kernel
theorem dX4_nameAt_20 : decode cX4_nameAt 20 = .ok (.iload_n 1, 1) := by decide +kernel
theorem dX4_nameAt_21 : decode cX4_nameAt 21 = .ok (.iload 5, 2) := by decide +kernel
theorem dX4_nameAt_23 : decode cX4_nameAt 23 = .ok (.iadd, 1) := by decide +kernel
theorem dX4_nameAt_24 : decode cX4_nameAt 24 = .ok (.baload, 1) := by decide +kernel
theorem dX4_nameAt_25 : decode cX4_nameAt 25 = .ok (.i2l, 1) := by decide +kernel
theorem dX4_nameAt_26 : decode cX4_nameAt 26 = .ok (.ladd, 1) := by decide +kernel
theorem dX4_nameAt_27 : decode cX4_nameAt 27 = .ok (.ldc2_w 189, 3) := by decide +kernel
theorem dX4_nameAt_30 : decode cX4_nameAt 30 = .ok (.lsub, 1) := by decide +kernel
theorem dX4_nameAt_31 : decode cX4_nameAt 31 = .ok (.lconst 1, 1) := by decide +kernel
theorem dX4_nameAt_32 : decode cX4_nameAt 32 = .ok (.ladd, 1) := by decide +kernel
theorem dX4_nameAt_33 : decode cX4_nameAt 33 = .ok (.lstore_n 3, 1) := by decide +kernel
theorem dX4_nameAt_34 : decode cX4_nameAt 34 = .ok (.iinc 5 1, 3) := by decide +kernel
theorem dX4_nameAt_37 : decode cX4_nameAt 37 = .ok (.goto (-32), 3) := by decide +kernel
theorem dX4_nameAt_40 : decode cX4_nameAt 40 = .ok (.lload_n 3, 1) := by decide +kernel
theorem dX4_nameAt_41 : decode cX4_nameAt 41 = .ok (.lreturn, 1) := by decide +kernel
theorem dX4_tellLaw_0 : decode cX4_tellLaw 0 = .ok (.aload_n 0, 1) := by decide +kernel
theorem dX4_tellLaw_1 : decode cX4_tellLaw 1 = .ok (.aload_n 0, 1) := by decide +kernel
theorem dX4_tellLaw_2 : decode cX4_tellLaw 2 = .ok (.getfield 38, 3) := by decide +kernel
theorem dX4_tellLaw_5 : decode cX4_tellLaw 5 = .ok (.aload_n 0, 1) := by decide +kernel
theorem dX4_tellLaw_6 : decode cX4_tellLaw 6 = .ok (.getfield 48, 3) := by decide +kernel
theorem dX4_tellLaw_9 : decode cX4_tellLaw 9 = .ok (.iaload, 1) := by decide +kernel
theorem dX4_tellLaw_10 : decode cX4_tellLaw 10 = .ok (.invokevirtual 132, 3) := by decide +kernel
theorem dX4_tellLaw_13 : decode cX4_tellLaw 13 = .ok (.pop, 1) := by decide +kernel
theorem dX4_tellLaw_14 : decode cX4_tellLaw 14 = .ok (.aload_n 0, 1) := by decide +kernel
theorem dX4_tellLaw_15 : decode cX4_tellLaw 15 = .ok (.bipush 24, 2) := by decide +kernel
theorem dX4_tellLaw_17 : decode cX4_tellLaw 17 = .ok (.invokevirtual 132, 3) := by decide +kernel
theorem dX4_tellLaw_20 : decode cX4_tellLaw 20 = .ok (.pop, 1) := by decide +kernel
theorem dX4_tellLaw_21 : decode cX4_tellLaw 21 = .ok (.aload_n 1, 1) := by decide +kernel
theorem dX4_tellLaw_22 : decode cX4_tellLaw 22 = .ok (.invokevirtual 191, 3) := by decide +kernel
theorem dX4_tellLaw_25 : decode cX4_tellLaw 25 = .ok (.iconst 0, 1) := by decide +kernel
theorem dX4_tellLaw_26 : decode cX4_tellLaw 26 = .ok (.istore_n 2, 1) := by decide +kernel
theorem dX4_tellLaw_27 : decode cX4_tellLaw 27 = .ok (.iload_n 2, 1) := by decide +kernel
theorem dX4_tellLaw_28 : decode cX4_tellLaw 28 = .ok (.iconst 4, 1) := by decide +kernel
theorem dX4_tellLaw_29 : decode cX4_tellLaw 29 = .ok (.if_icmp .ge 88, 3) := by decide +kernel
theorem dX4_tellLaw_32 : decode cX4_tellLaw 32 = .ok (.aload_n 0, 1) := by decide +kernel
theorem dX4_tellLaw_33 : decode cX4_tellLaw 33 = .ok (.getfield 29, 3) := by decide +kernel
theorem dX4_tellLaw_36 : decode cX4_tellLaw 36 = .ok (.ifCond .ne 81, 3) := by decide +kernel
theorem dX4_tellLaw_39 : decode cX4_tellLaw 39 = .ok (.aload_n 0, 1) := by decide +kernel
theorem dX4_tellLaw_40 : decode cX4_tellLaw 40 = .ok (.getfield 38, 3) := by decide +kernel
theorem dX4_tellLaw_43 : decode cX4_tellLaw 43 = .ok (.aload_n 0, 1) := by decide +kernel
theorem dX4_tellLaw_44 : decode cX4_tellLaw 44 = .ok (.getfield 48, 3) := by decide +kernel
theorem dX4_tellLaw_47 : decode cX4_tellLaw 47 = .ok (.iaload, 1) := by decide +kernel
theorem dX4_tellLaw_48 : decode cX4_tellLaw 48 = .ok (.bipush 11, 2) := by decide +kernel
theorem dX4_tellLaw_50 : decode cX4_tellLaw 50 = .ok (.if_icmp .ne 67, 3) := by decide +kernel
theorem dX4_tellLaw_53 : decode cX4_tellLaw 53 = .ok (.aload_n 0, 1) := by decide +kernel
theorem dX4_tellLaw_54 : decode cX4_tellLaw 54 = .ok (.bipush 11, 2) := by decide +kernel
theorem dX4_tellLaw_56 : decode cX4_tellLaw 56 = .ok (.invokevirtual 132, 3) := by decide +kernel
theorem dX4_tellLaw_59 : decode cX4_tellLaw 59 = .ok (.pop, 1) := by decide +kernel
theorem dX4_tellLaw_60 : decode cX4_tellLaw 60 = .ok (.aload_n 0, 1) := by decide +kernel
theorem dX4_tellLaw_61 : decode cX4_tellLaw 61 = .ok (.aload_n 1, 1) := by decide +kernel
theorem dX4_tellLaw_62 : decode cX4_tellLaw 62 = .ok (.iconst 0, 1) := by decide +kernel
theorem dX4_tellLaw_63 : decode cX4_tellLaw 63 = .ok (.invokevirtual 194, 3) := by decide +kernel
theorem dX4_tellLaw_66 : decode cX4_tellLaw 66 = .ok (.aload_n 1, 1) := by decide +kernel
theorem dX4_tellLaw_67 : decode cX4_tellLaw 67 = .ok (.invokevirtual 198, 3) := by decide +kernel
theorem dX4_tellLaw_70 : decode cX4_tellLaw 70 = .ok (.aload_n 0, 1) := by decide +kernel
theorem dX4_tellLaw_71 : decode cX4_tellLaw 71 = .ok (.bipush 29, 2) := by decide +kernel
theorem dX4_tellLaw_73 : decode cX4_tellLaw 73 = .ok (.invokevirtual 132, 3) := by decide +kernel
theorem dX4_tellLaw_76 : decode cX4_tellLaw 76 = .ok (.pop, 1) := by decide +kernel
theorem dX4_tellLaw_77 : decode cX4_tellLaw 77 = .ok (.aload_n 0, 1) := by decide +kernel
theorem dX4_tellLaw_78 : decode cX4_tellLaw 78 = .ok (.aload_n 1, 1) := by decide +kernel
theorem dX4_tellLaw_79 : decode cX4_tellLaw 79 = .ok (.iconst 0, 1) := by decide +kernel
theorem dX4_tellLaw_80 : decode cX4_tellLaw 80 = .ok (.invokevirtual 194, 3) := by decide +kernel
theorem dX4_tellLaw_83 : decode cX4_tellLaw 83 = .ok (.aload_n 1, 1) := by decide +kernel
theorem dX4_tellLaw_84 : decode cX4_tellLaw 84 = .ok (.invokevirtual 198, 3) := by decide +kernel
theorem dX4_tellLaw_87 : decode cX4_tellLaw 87 = .ok (.aload_n 0, 1) := by decide +kernel
theorem dX4_tellLaw_88 : decode cX4_tellLaw 88 = .ok (.bipush 12, 2) := by decide +kernel
theorem dX4_tellLaw_90 : decode cX4_tellLaw 90 = .ok (.invokevirtual 132, 3) := by decide +kernel
theorem dX4_tellLaw_93 : decode cX4_tellLaw 93 = .ok (.pop, 1) := by decide +kernel
theorem dX4_tellLaw_94 : decode cX4_tellLaw 94 = .ok (.aload_n 0, 1) := by decide +kernel
theorem dX4_tellLaw_95 : decode cX4_tellLaw 95 = .ok (.aload_n 1, 1) := by decide +kernel
theorem dX4_tellLaw_96 : decode cX4_tellLaw 96 = .ok (.iconst 0, 1) := by decide +kernel
theorem dX4_tellLaw_97 : decode cX4_tellLaw 97 = .ok (.invokevirtual 194, 3) := by decide +kernel
theorem dX4_tellLaw_100 : decode cX4_tellLaw 100 = .ok (.aload_n 1, 1) := by decide +kernel
theorem dX4_tellLaw_101 : decode cX4_tellLaw 101 = .ok (.invokevirtual 198, 3) := by decide +kernel
theorem dX4_tellLaw_104 : decode cX4_tellLaw 104 = .ok (.aload_n 0, 1) := by decide +kernel
theorem dX4_tellLaw_105 : decode cX4_tellLaw 105 = .ok (.bipush 13, 2) := by decide +kernel
theorem dX4_tellLaw_107 : decode cX4_tellLaw 107 = .ok (.invokevirtual 132, 3) := by decide +kernel
theorem dX4_tellLaw_110 : decode cX4_tellLaw 110 = .ok (.pop, 1) := by decide +kernel
theorem dX4_tellLaw_111 : decode cX4_tellLaw 111 = .ok (.iinc 2 1, 3) := by decide +kernel
theorem dX4_tellLaw_114 : decode cX4_tellLaw 114 = .ok (.goto (-87), 3) := by decide +kernel
theorem dX4_tellLaw_117 : decode cX4_tellLaw 117 = .ok (.aload_n 0, 1) := by decide +kernel
theorem dX4_tellLaw_118 : decode cX4_tellLaw 118 = .ok (.getfield 38, 3) := by decide +kernel
theorem dX4_tellLaw_121 : decode cX4_tellLaw 121 = .ok (.aload_n 0, 1) := by decide +kernel
theorem dX4_tellLaw_122 : decode cX4_tellLaw 122 = .ok (.getfield 48, 3) := by decide +kernel
theorem dX4_tellLaw_125 : decode cX4_tellLaw 125 = .ok (.iaload, 1) := by decide +kernel
theorem dX4_tellLaw_126 : decode cX4_tellLaw 126 = .ok (.bipush 11, 2) := by decide +kernel
theorem dX4_tellLaw_128 : decode cX4_tellLaw 128 = .ok (.if_icmp .ne 8, 3) := by decide +kernel
theorem dX4_tellLaw_131 : decode cX4_tellLaw 131 = .ok (.aload_n 0, 1) := by decide +kernel
theorem dX4_tellLaw_132 : decode cX4_tellLaw 132 = .ok (.iconst 2, 1) := by decide +kernel
theorem dX4_tellLaw_133 : decode cX4_tellLaw 133 = .ok (.invokevirtual 144, 3) := by decide +kernel
theorem dX4_tellLaw_136 : decode cX4_tellLaw 136 = .ok (.aload_n 0, 1) := by decide +kernel
theorem dX4_tellLaw_137 : decode cX4_tellLaw 137 = .ok (.aload_n 1, 1) := by decide +kernel
theorem dX4_tellLaw_138 : decode cX4_tellLaw 138 = .ok (.iconst 0, 1) := by decide +kernel
theorem dX4_tellLaw_139 : decode cX4_tellLaw 139 = .ok (.invokevirtual 194, 3) := by decide +kernel
theorem dX4_tellLaw_142 : decode cX4_tellLaw 142 = .ok (.aload_n 1, 1) := by decide +kernel
theorem dX4_tellLaw_143 : decode cX4_tellLaw 143 = .ok (.invokevirtual 198, 3) := by decide +kernel
theorem dX4_tellLaw_146 : decode cX4_tellLaw 146 = .ok (.return_, 1) := by decide +kernel
theorem dX4_sum_0 : decode cX4_sum 0 = .ok (.aload_n 0, 1) := by decide +kernel
theorem dX4_sum_1 : decode cX4_sum 1 = .ok (.aload_n 1, 1) := by decide +kernel
theorem dX4_sum_2 : decode cX4_sum 2 = .ok (.iload_n 2, 1) := by decide +kernel
theorem dX4_sum_3 : decode cX4_sum 3 = .ok (.invokevirtual 201, 3) := by decide +kernel
theorem dX4_sum_6 : decode cX4_sum 6 = .ok (.iconst 0, 1) := by decide +kernel
theorem dX4_sum_7 : decode cX4_sum 7 = .ok (.istore_n 3, 1) := by decide +kernel
theorem dX4_sum_8 : decode cX4_sum 8 = .ok (.iload_n 3, 1) := by decide +kernel
theorem dX4_sum_9 : decode cX4_sum 9 = .ok (.sipush 400, 3) := by decide +kernel
theorem dX4_sum_12 : decode cX4_sum 12 = .ok (.if_icmp .ge 81, 3) := by decide +kernel
theorem dX4_sum_15 : decode cX4_sum 15 = .ok (.aload_n 0, 1) := by decide +kernel
theorem dX4_sum_16 : decode cX4_sum 16 = .ok (.getfield 29, 3) := by decide +kernel
theorem dX4_sum_19 : decode cX4_sum 19 = .ok (.ifCond .ne 74, 3) := by decide +kernel
theorem dX4_sum_22 : decode cX4_sum 22 = .ok (.aload_n 0, 1) := by decide +kernel
theorem dX4_sum_23 : decode cX4_sum 23 = .ok (.getfield 38, 3) := by decide +kernel
theorem dX4_sum_26 : decode cX4_sum 26 = .ok (.aload_n 0, 1) := by decide +kernel
theorem dX4_sum_27 : decode cX4_sum 27 = .ok (.getfield 48, 3) := by decide +kernel
theorem dX4_sum_30 : decode cX4_sum 30 = .ok (.iaload, 1) := by decide +kernel
theorem dX4_sum_31 : decode cX4_sum 31 = .ok (.bipush 25, 2) := by decide +kernel
theorem dX4_sum_33 : decode cX4_sum 33 = .ok (.if_icmp .eq 17, 3) := by decide +kernel
theorem dX4_sum_36 : decode cX4_sum 36 = .ok (.aload_n 0, 1) := by decide +kernel
theorem dX4_sum_37 : decode cX4_sum 37 = .ok (.getfield 38, 3) := by decide +kernel
theorem dX4_sum_40 : decode cX4_sum 40 = .ok (.aload_n 0, 1) := by decide +kernel
theorem dX4_sum_41 : decode cX4_sum 41 = .ok (.getfield 48, 3) := by decide +kernel
theorem dX4_sum_44 : decode cX4_sum 44 = .ok (.iaload, 1) := by decide +kernel
theorem dX4_sum_45 : decode cX4_sum 45 = .ok (.bipush 26, 2) := by decide +kernel
theorem dX4_sum_47 : decode cX4_sum 47 = .ok (.if_icmp .ne 46, 3) := by decide +kernel
theorem dX4_sum_50 : decode cX4_sum 50 = .ok (.aload_n 0, 1) := by decide +kernel
theorem dX4_sum_51 : decode cX4_sum 51 = .ok (.getfield 38, 3) := by decide +kernel
theorem dX4_sum_54 : decode cX4_sum 54 = .ok (.aload_n 0, 1) := by decide +kernel
theorem dX4_sum_55 : decode cX4_sum 55 = .ok (.getfield 48, 3) := by decide +kernel
theorem dX4_sum_58 : decode cX4_sum 58 = .ok (.iaload, 1) := by decide +kernel
theorem dX4_sum_59 : decode cX4_sum 59 = .ok (.istore 4, 2) := by decide +kernel
theorem dX4_sum_61 : decode cX4_sum 61 = .ok (.aload_n 0, 1) := by decide +kernel
theorem dX4_sum_62 : decode cX4_sum 62 = .ok (.iload 4, 2) := by decide +kernel
theorem dX4_sum_64 : decode cX4_sum 64 = .ok (.invokevirtual 132, 3) := by decide +kernel
theorem dX4_sum_67 : decode cX4_sum 67 = .ok (.pop, 1) := by decide +kernel
theorem dX4_sum_68 : decode cX4_sum 68 = .ok (.aload_n 0, 1) := by decide +kernel
theorem dX4_sum_69 : decode cX4_sum 69 = .ok (.aload_n 1, 1) := by decide +kernel
theorem dX4_sum_70 : decode cX4_sum 70 = .ok (.iload_n 2, 1) := by decide +kernel
theorem dX4_sum_71 : decode cX4_sum 71 = .ok (.invokevirtual 201, 3) := by decide +kernel
theorem dX4_sum_74 : decode cX4_sum 74 = .ok (.aload_n 1, 1) := by decide +kernel
theorem dX4_sum_75 : decode cX4_sum 75 = .ok (.sipush 10100, 3) := by decide +kernel
theorem dX4_sum_78 : decode cX4_sum 78 = .ok (.iload 4, 2) := by decide +kernel
theorem dX4_sum_80 : decode cX4_sum 80 = .ok (.iadd, 1) := by decide +kernel
theorem dX4_sum_81 : decode cX4_sum 81 = .ok (.bipush 25, 2) := by decide +kernel
theorem dX4_sum_83 : decode cX4_sum 83 = .ok (.isub, 1) := by decide +kernel
theorem dX4_sum_84 : decode cX4_sum 84 = .ok (.invokevirtual 204, 3) := by decide +kernel
theorem dX4_sum_87 : decode cX4_sum 87 = .ok (.iinc 3 1, 3) := by decide +kernel
theorem dX4_sum_90 : decode cX4_sum 90 = .ok (.goto (-82), 3) := by decide +kernel
theorem dX4_sum_93 : decode cX4_sum 93 = .ok (.return_, 1) := by decide +kernel
theorem dX4_product_0 : decode cX4_product 0 = .ok (.aload_n 0, 1) := by decide +kernel
theorem dX4_product_1 : decode cX4_product 1 = .ok (.aload_n 1, 1) := by decide +kernel
theorem dX4_product_2 : decode cX4_product 2 = .ok (.iload_n 2, 1) := by decide +kernel
theorem dX4_product_3 : decode cX4_product 3 = .ok (.invokevirtual 207, 3) := by decide +kernel
theorem dX4_product_6 : decode cX4_product 6 = .ok (.iconst 0, 1) := by decide +kernel
theorem dX4_product_7 : decode cX4_product 7 = .ok (.istore_n 3, 1) := by decide +kernel
theorem dX4_product_8 : decode cX4_product 8 = .ok (.iload_n 3, 1) := by decide +kernel
theorem dX4_product_9 : decode cX4_product 9 = .ok (.sipush 400, 3) := by decide +kernel
theorem dX4_product_12 : decode cX4_product 12 = .ok (.if_icmp .ge 81, 3) := by decide +kernel
theorem dX4_product_15 : decode cX4_product 15 = .ok (.aload_n 0, 1) := by decide +kernel
theorem dX4_product_16 : decode cX4_product 16 = .ok (.getfield 29, 3) := by decide +kernel
theorem dX4_product_19 : decode cX4_product 19 = .ok (.ifCond .ne 74, 3) := by decide +kernel
theorem dX4_product_22 : decode cX4_product 22 = .ok (.aload_n 0, 1) := by decide +kernel
theorem dX4_product_23 : decode cX4_product 23 = .ok (.getfield 38, 3) := by decide +kernel
theorem dX4_product_26 : decode cX4_product 26 = .ok (.aload_n 0, 1) := by decide +kernel
theorem dX4_product_27 : decode cX4_product 27 = .ok (.getfield 48, 3) := by decide +kernel
theorem dX4_product_30 : decode cX4_product 30 = .ok (.iaload, 1) := by decide +kernel
theorem dX4_product_31 : decode cX4_product 31 = .ok (.bipush 27, 2) := by decide +kernel
theorem dX4_product_33 : decode cX4_product 33 = .ok (.if_icmp .eq 17, 3) := by decide +kernel
theorem dX4_product_36 : decode cX4_product 36 = .ok (.aload_n 0, 1) := by decide +kernel
theorem dX4_product_37 : decode cX4_product 37 = .ok (.getfield 38, 3) := by decide +kernel
theorem dX4_product_40 : decode cX4_product 40 = .ok (.aload_n 0, 1) := by decide +kernel
theorem dX4_product_41 : decode cX4_product 41 = .ok (.getfield 48, 3) := by decide +kernel
theorem dX4_product_44 : decode cX4_product 44 = .ok (.iaload, 1) := by decide +kernel
theorem dX4_product_45 : decode cX4_product 45 = .ok (.bipush 28, 2) := by decide +kernel
theorem dX4_product_47 : decode cX4_product 47 = .ok (.if_icmp .ne 46, 3) := by decide +kernel
theorem dX4_product_50 : decode cX4_product 50 = .ok (.aload_n 0, 1) := by decide +kernel
theorem dX4_product_51 : decode cX4_product 51 = .ok (.getfield 38, 3) := by decide +kernel
theorem dX4_product_54 : decode cX4_product 54 = .ok (.aload_n 0, 1) := by decide +kernel
theorem dX4_product_55 : decode cX4_product 55 = .ok (.getfield 48, 3) := by decide +kernel
theorem dX4_product_58 : decode cX4_product 58 = .ok (.iaload, 1) := by decide +kernel
theorem dX4_product_59 : decode cX4_product 59 = .ok (.istore 4, 2) := by decide +kernel
theorem dX4_product_61 : decode cX4_product 61 = .ok (.aload_n 0, 1) := by decide +kernel
theorem dX4_product_62 : decode cX4_product 62 = .ok (.iload 4, 2) := by decide +kernel
theorem dX4_product_64 : decode cX4_product 64 = .ok (.invokevirtual 132, 3) := by decide +kernel
theorem dX4_product_67 : decode cX4_product 67 = .ok (.pop, 1) := by decide +kernel
theorem dX4_product_68 : decode cX4_product 68 = .ok (.aload_n 0, 1) := by decide +kernel
theorem dX4_product_69 : decode cX4_product 69 = .ok (.aload_n 1, 1) := by decide +kernel
theorem dX4_product_70 : decode cX4_product 70 = .ok (.iload_n 2, 1) := by decide +kernel
theorem dX4_product_71 : decode cX4_product 71 = .ok (.invokevirtual 207, 3) := by decide +kernel
theorem dX4_product_74 : decode cX4_product 74 = .ok (.aload_n 1, 1) := by decide +kernel
theorem dX4_product_75 : decode cX4_product 75 = .ok (.sipush 10100, 3) := by decide +kernel
theorem dX4_product_78 : decode cX4_product 78 = .ok (.iload 4, 2) := by decide +kernel
theorem dX4_product_80 : decode cX4_product 80 = .ok (.iadd, 1) := by decide +kernel
theorem dX4_product_81 : decode cX4_product 81 = .ok (.bipush 25, 2) := by decide +kernel
theorem dX4_product_83 : decode cX4_product 83 = .ok (.isub, 1) := by decide +kernel
theorem dX4_product_84 : decode cX4_product 84 = .ok (.invokevirtual 204, 3) := by decide +kernel
theorem dX4_product_87 : decode cX4_product 87 = .ok (.iinc 3 1, 3) := by decide +kernel
theorem dX4_product_90 : decode cX4_product 90 = .ok (.goto (-82), 3) := by decide +kernel
theorem dX4_product_93 : decode cX4_product 93 = .ok (.return_, 1) := by decide +kernel
theorem dX4_unit_0 : decode cX4_unit 0 = .ok (.aload_n 0, 1) := by decide +kernel
theorem dX4_unit_1 : decode cX4_unit 1 = .ok (.getfield 48, 3) := by decide +kernel
theorem dX4_unit_4 : decode cX4_unit 4 = .ok (.istore_n 3, 1) := by decide +kernel
theorem dX4_unit_5 : decode cX4_unit 5 = .ok (.aload_n 0, 1) := by decide +kernel
theorem dX4_unit_6 : decode cX4_unit 6 = .ok (.getfield 38, 3) := by decide +kernel
theorem dX4_unit_9 : decode cX4_unit 9 = .ok (.iload_n 3, 1) := by decide +kernel
theorem dX4_unit_10 : decode cX4_unit 10 = .ok (.iaload, 1) := by decide +kernel
theorem dX4_unit_11 : decode cX4_unit 11 = .ok (.istore 4, 2) := by decide +kernel
theorem dX4_unit_13 : decode cX4_unit 13 = .ok (.aload_n 0, 1) := by decide +kernel
theorem dX4_unit_14 : decode cX4_unit 14 = .ok (.getfield 29, 3) := by decide +kernel
theorem dX4_unit_17 : decode cX4_unit 17 = .ok (.ifCond .eq 4, 3) := by decide +kernel
theorem dX4_unit_20 : decode cX4_unit 20 = .ok (.return_, 1) := by decide +kernel
theorem dX4_unit_21 : decode cX4_unit 21 = .ok (.iload 4, 2) := by decide +kernel
theorem dX4_unit_23 : decode cX4_unit 23 = .ok (.bipush 30, 2) := by decide +kernel
theorem dX4_unit_25 : decode cX4_unit 25 = .ok (.if_icmp .ne 17, 3) := by decide +kernel
theorem dX4_unit_28 : decode cX4_unit 28 = .ok (.iload_n 2, 1) := by decide +kernel
theorem dX4_unit_29 : decode cX4_unit 29 = .ok (.bipush 6, 2) := by decide +kernel
theorem dX4_unit_31 : decode cX4_unit 31 = .ok (.if_icmp .lt 11, 3) := by decide +kernel
theorem dX4_unit_34 : decode cX4_unit 34 = .ok (.aload_n 0, 1) := by decide +kernel
theorem dX4_unit_35 : decode cX4_unit 35 = .ok (.iconst 2, 1) := by decide +kernel
theorem dX4_unit_36 : decode cX4_unit 36 = .ok (.invokevirtual 144, 3) := by decide +kernel
theorem dX4_unit_39 : decode cX4_unit 39 = .ok (.goto 90, 3) := by decide +kernel
theorem dX4_unit_42 : decode cX4_unit 42 = .ok (.iload 4, 2) := by decide +kernel
theorem dX4_unit_44 : decode cX4_unit 44 = .ok (.bipush 30, 2) := by decide +kernel
theorem dX4_unit_46 : decode cX4_unit 46 = .ok (.if_icmp .ne 28, 3) := by decide +kernel
theorem dX4_unit_49 : decode cX4_unit 49 = .ok (.aload_n 0, 1) := by decide +kernel
theorem dX4_unit_50 : decode cX4_unit 50 = .ok (.bipush 30, 2) := by decide +kernel
theorem dX4_unit_52 : decode cX4_unit 52 = .ok (.invokevirtual 132, 3) := by decide +kernel
theorem dX4_unit_55 : decode cX4_unit 55 = .ok (.pop, 1) := by decide +kernel
theorem dX4_unit_56 : decode cX4_unit 56 = .ok (.aload_n 0, 1) := by decide +kernel
theorem dX4_unit_57 : decode cX4_unit 57 = .ok (.aload_n 1, 1) := by decide +kernel
theorem dX4_unit_58 : decode cX4_unit 58 = .ok (.iload_n 2, 1) := by decide +kernel
theorem dX4_unit_59 : decode cX4_unit 59 = .ok (.iconst 1, 1) := by decide +kernel
theorem dX4_unit_60 : decode cX4_unit 60 = .ok (.iadd, 1) := by decide +kernel
theorem dX4_unit_61 : decode cX4_unit 61 = .ok (.invokevirtual 194, 3) := by decide +kernel
theorem dX4_unit_64 : decode cX4_unit 64 = .ok (.aload_n 0, 1) := by decide +kernel
theorem dX4_unit_65 : decode cX4_unit 65 = .ok (.bipush 31, 2) := by decide +kernel
theorem dX4_unit_67 : decode cX4_unit 67 = .ok (.invokevirtual 132, 3) := by decide +kernel
theorem dX4_unit_70 : decode cX4_unit 70 = .ok (.pop, 1) := by decide +kernel
theorem dX4_unit_71 : decode cX4_unit 71 = .ok (.goto 58, 3) := by decide +kernel
theorem dX4_unit_74 : decode cX4_unit 74 = .ok (.iload 4, 2) := by decide +kernel
theorem dX4_unit_76 : decode cX4_unit 76 = .ok (.bipush 14, 2) := by decide +kernel
theorem dX4_unit_78 : decode cX4_unit 78 = .ok (.if_icmp .lt 33, 3) := by decide +kernel
theorem dX4_unit_81 : decode cX4_unit 81 = .ok (.iload 4, 2) := by decide +kernel
theorem dX4_unit_83 : decode cX4_unit 83 = .ok (.bipush 23, 2) := by decide +kernel
theorem dX4_unit_85 : decode cX4_unit 85 = .ok (.if_icmp .ge 26, 3) := by decide +kernel
theorem dX4_unit_88 : decode cX4_unit 88 = .ok (.aload_n 0, 1) := by decide +kernel
theorem dX4_unit_89 : decode cX4_unit 89 = .ok (.iload 4, 2) := by decide +kernel
theorem dX4_unit_91 : decode cX4_unit 91 = .ok (.invokevirtual 132, 3) := by decide +kernel
theorem dX4_unit_94 : decode cX4_unit 94 = .ok (.pop, 1) := by decide +kernel
theorem dX4_unit_95 : decode cX4_unit 95 = .ok (.aload_n 1, 1) := by decide +kernel
theorem dX4_unit_96 : decode cX4_unit 96 = .ok (.sipush 10000, 3) := by decide +kernel
theorem dX4_unit_99 : decode cX4_unit 99 = .ok (.iload 4, 2) := by decide +kernel
theorem dX4_unit_101 : decode cX4_unit 101 = .ok (.iadd, 1) := by decide +kernel
theorem dX4_unit_102 : decode cX4_unit 102 = .ok (.bipush 14, 2) := by decide +kernel
theorem dX4_unit_104 : decode cX4_unit 104 = .ok (.isub, 1) := by decide +kernel
theorem dX4_unit_105 : decode cX4_unit 105 = .ok (.invokevirtual 204, 3) := by decide +kernel
theorem dX4_unit_108 : decode cX4_unit 108 = .ok (.goto 21, 3) := by decide +kernel
theorem dX4_unit_111 : decode cX4_unit 111 = .ok (.aload_n 0, 1) := by decide +kernel
theorem dX4_unit_112 : decode cX4_unit 112 = .ok (.iconst 3, 1) := by decide +kernel
theorem dX4_unit_113 : decode cX4_unit 113 = .ok (.invokevirtual 132, 3) := by decide +kernel
theorem dX4_unit_116 : decode cX4_unit 116 = .ok (.ifCond .eq 13, 3) := by decide +kernel
theorem dX4_unit_119 : decode cX4_unit 119 = .ok (.aload_n 1, 1) := by decide +kernel
theorem dX4_unit_120 : decode cX4_unit 120 = .ok (.aload_n 0, 1) := by decide +kernel
theorem dX4_unit_121 : decode cX4_unit 121 = .ok (.getfield 45, 3) := by decide +kernel
theorem dX4_unit_124 : decode cX4_unit 124 = .ok (.iload_n 3, 1) := by decide +kernel
theorem dX4_unit_125 : decode cX4_unit 125 = .ok (.iaload, 1) := by decide +kernel
theorem dX4_unit_126 : decode cX4_unit 126 = .ok (.invokevirtual 204, 3) := by decide +kernel
theorem dX4_unit_129 : decode cX4_unit 129 = .ok (.return_, 1) := by decide +kernel
theorem dX5_clear_0 : decode cX5_clear 0 = .ok (.aload_n 0, 1) := by decide +kernel
theorem dX5_clear_1 : decode cX5_clear 1 = .ok (.iconst 0, 1) := by decide +kernel
theorem dX5_clear_2 : decode cX5_clear 2 = .ok (.putfield 9, 3) := by decide +kernel
theorem dX5_clear_5 : decode cX5_clear 5 = .ok (.aload_n 0, 1) := by decide +kernel
theorem dX5_clear_6 : decode cX5_clear 6 = .ok (.iconst 0, 1) := by decide +kernel
theorem dX5_clear_7 : decode cX5_clear 7 = .ok (.putfield 15, 3) := by decide +kernel
theorem dX5_clear_10 : decode cX5_clear 10 = .ok (.aload_n 0, 1) := by decide +kernel
theorem dX5_clear_11 : decode cX5_clear 11 = .ok (.iconst 0, 1) := by decide +kernel
theorem dX5_clear_12 : decode cX5_clear 12 = .ok (.putfield 18, 3) := by decide +kernel
theorem dX5_clear_15 : decode cX5_clear 15 = .ok (.aload_n 0, 1) := by decide +kernel
theorem dX5_clear_16 : decode cX5_clear 16 = .ok (.iconst 0, 1) := by decide +kernel
theorem dX5_clear_17 : decode cX5_clear 17 = .ok (.putfield 21, 3) := by decide +kernel
theorem dX5_clear_20 : decode cX5_clear 20 = .ok (.aload_n 0, 1) := by decide +kernel
theorem dX5_clear_21 : decode cX5_clear 21 = .ok (.getfield 24, 3) := by decide +kernel
theorem dX5_clear_24 : decode cX5_clear 24 = .ok (.iconst 0, 1) := by decide +kernel
theorem dX5_clear_25 : decode cX5_clear 25 = .ok (.invokestatic 34, 3) := by decide +kernel
theorem dX5_clear_28 : decode cX5_clear 28 = .ok (.aload_n 0, 1) := by decide +kernel
theorem dX5_clear_29 : decode cX5_clear 29 = .ok (.getfield 28, 3) := by decide +kernel
theorem dX5_clear_32 : decode cX5_clear 32 = .ok (.iconst 0, 1) := by decide +kernel
theorem dX5_clear_33 : decode cX5_clear 33 = .ok (.invokestatic 34, 3) := by decide +kernel
theorem dX5_clear_36 : decode cX5_clear 36 = .ok (.aload_n 0, 1) := by decide +kernel
theorem dX5_clear_37 : decode cX5_clear 37 = .ok (.getfield 31, 3) := by decide +kernel
theorem dX5_clear_40 : decode cX5_clear 40 = .ok (.iconst 0, 1) := by decide +kernel
theorem dX5_clear_41 : decode cX5_clear 41 = .ok (.invokestatic 34, 3) := by decide +kernel
theorem dX5_clear_44 : decode cX5_clear 44 = .ok (.return_, 1) := by decide +kernel
theorem dX5_copyFrom_0 : decode cX5_copyFrom 0 = .ok (.aload_n 0, 1) := by decide +kernel
theorem dX5_copyFrom_1 : decode cX5_copyFrom 1 = .ok (.aload_n 1, 1) := by decide +kernel
theorem dX5_copyFrom_2 : decode cX5_copyFrom 2 = .ok (.getfield 9, 3) := by decide +kernel
theorem dX5_copyFrom_5 : decode cX5_copyFrom 5 = .ok (.putfield 9, 3) := by decide +kernel
theorem dX5_copyFrom_8 : decode cX5_copyFrom 8 = .ok (.aload_n 0, 1) := by decide +kernel
theorem dX5_copyFrom_9 : decode cX5_copyFrom 9 = .ok (.aload_n 1, 1) := by decide +kernel
theorem dX5_copyFrom_10 : decode cX5_copyFrom 10 = .ok (.getfield 15, 3) := by decide +kernel
theorem dX5_copyFrom_13 : decode cX5_copyFrom 13 = .ok (.putfield 15, 3) := by decide +kernel
theorem dX5_copyFrom_16 : decode cX5_copyFrom 16 = .ok (.aload_n 0, 1) := by decide +kernel
theorem dX5_copyFrom_17 : decode cX5_copyFrom 17 = .ok (.aload_n 1, 1) := by decide +kernel
theorem dX5_copyFrom_18 : decode cX5_copyFrom 18 = .ok (.getfield 18, 3) := by decide +kernel
theorem dX5_copyFrom_21 : decode cX5_copyFrom 21 = .ok (.putfield 18, 3) := by decide +kernel
theorem dX5_copyFrom_24 : decode cX5_copyFrom 24 = .ok (.aload_n 0, 1) := by decide +kernel
theorem dX5_copyFrom_25 : decode cX5_copyFrom 25 = .ok (.aload_n 1, 1) := by decide +kernel
theorem dX5_copyFrom_26 : decode cX5_copyFrom 26 = .ok (.getfield 21, 3) := by decide +kernel
theorem dX5_copyFrom_29 : decode cX5_copyFrom 29 = .ok (.putfield 21, 3) := by decide +kernel
theorem dX5_copyFrom_32 : decode cX5_copyFrom 32 = .ok (.aload_n 1, 1) := by decide +kernel
theorem dX5_copyFrom_33 : decode cX5_copyFrom 33 = .ok (.getfield 24, 3) := by decide +kernel
theorem dX5_copyFrom_36 : decode cX5_copyFrom 36 = .ok (.iconst 0, 1) := by decide +kernel
theorem dX5_copyFrom_37 : decode cX5_copyFrom 37 = .ok (.aload_n 0, 1) := by decide +kernel
theorem dX5_copyFrom_38 : decode cX5_copyFrom 38 = .ok (.getfield 24, 3) := by decide +kernel
theorem dX5_copyFrom_41 : decode cX5_copyFrom 41 = .ok (.iconst 0, 1) := by decide +kernel
theorem dX5_copyFrom_42 : decode cX5_copyFrom 42 = .ok (.bipush 6, 2) := by decide +kernel
theorem dX5_copyFrom_44 : decode cX5_copyFrom 44 = .ok (.invokestatic 40, 3) := by decide +kernel
theorem dX5_copyFrom_47 : decode cX5_copyFrom 47 = .ok (.aload_n 1, 1) := by decide +kernel
theorem dX5_copyFrom_48 : decode cX5_copyFrom 48 = .ok (.getfield 28, 3) := by decide +kernel
theorem dX5_copyFrom_51 : decode cX5_copyFrom 51 = .ok (.iconst 0, 1) := by decide +kernel
theorem dX5_copyFrom_52 : decode cX5_copyFrom 52 = .ok (.aload_n 0, 1) := by decide +kernel
theorem dX5_copyFrom_53 : decode cX5_copyFrom 53 = .ok (.getfield 28, 3) := by decide +kernel
theorem dX5_copyFrom_56 : decode cX5_copyFrom 56 = .ok (.iconst 0, 1) := by decide +kernel
theorem dX5_copyFrom_57 : decode cX5_copyFrom 57 = .ok (.bipush 6, 2) := by decide +kernel
theorem dX5_copyFrom_59 : decode cX5_copyFrom 59 = .ok (.invokestatic 40, 3) := by decide +kernel
theorem dX5_copyFrom_62 : decode cX5_copyFrom 62 = .ok (.aload_n 1, 1) := by decide +kernel
theorem dX5_copyFrom_63 : decode cX5_copyFrom 63 = .ok (.getfield 31, 3) := by decide +kernel
theorem dX5_copyFrom_66 : decode cX5_copyFrom 66 = .ok (.iconst 0, 1) := by decide +kernel
theorem dX5_copyFrom_67 : decode cX5_copyFrom 67 = .ok (.aload_n 0, 1) := by decide +kernel
theorem dX5_copyFrom_68 : decode cX5_copyFrom 68 = .ok (.getfield 31, 3) := by decide +kernel
theorem dX5_copyFrom_71 : decode cX5_copyFrom 71 = .ok (.iconst 0, 1) := by decide +kernel
theorem dX5_copyFrom_72 : decode cX5_copyFrom 72 = .ok (.sipush 240, 3) := by decide +kernel
theorem dX5_copyFrom_75 : decode cX5_copyFrom 75 = .ok (.invokestatic 40, 3) := by decide +kernel
theorem dX5_copyFrom_78 : decode cX5_copyFrom 78 = .ok (.return_, 1) := by decide +kernel
theorem dX5_isSailing_0 : decode cX5_isSailing 0 = .ok (.aload_n 0, 1) := by decide +kernel
theorem dX5_isSailing_1 : decode cX5_isSailing 1 = .ok (.getfield 18, 3) := by decide +kernel
theorem dX5_isSailing_4 : decode cX5_isSailing 4 = .ok (.aload_n 0, 1) := by decide +kernel
theorem dX5_isSailing_5 : decode cX5_isSailing 5 = .ok (.getfield 21, 3) := by decide +kernel
theorem dX5_isSailing_8 : decode cX5_isSailing 8 = .ok (.ior, 1) := by decide +kernel
theorem dX5_isSailing_9 : decode cX5_isSailing 9 = .ok (.iload_n 1, 1) := by decide +kernel
theorem dX5_isSailing_10 : decode cX5_isSailing 10 = .ok (.ishr, 1) := by decide +kernel
theorem dX5_isSailing_11 : decode cX5_isSailing 11 = .ok (.iconst 1, 1) := by decide +kernel
theorem dX5_isSailing_12 : decode cX5_isSailing 12 = .ok (.iand, 1) := by decide +kernel
theorem dX5_isSailing_13 : decode cX5_isSailing 13 = .ok (.ifCond .ne 7, 3) := by decide +kernel
theorem dX5_isSailing_16 : decode cX5_isSailing 16 = .ok (.iconst 1, 1) := by decide +kernel
theorem dX5_isSailing_17 : decode cX5_isSailing 17 = .ok (.goto 4, 3) := by decide +kernel
theorem dX5_isSailing_20 : decode cX5_isSailing 20 = .ok (.iconst 0, 1) := by decide +kernel
theorem dX5_isSailing_21 : decode cX5_isSailing 21 = .ok (.ireturn, 1) := by decide +kernel
theorem dX5_isLost_0 : decode cX5_isLost 0 = .ok (.aload_n 0, 1) := by decide +kernel
theorem dX5_isLost_1 : decode cX5_isLost 1 = .ok (.getfield 18, 3) := by decide +kernel
theorem dX5_isLost_4 : decode cX5_isLost 4 = .ok (.iload_n 1, 1) := by decide +kernel
theorem dX5_isLost_5 : decode cX5_isLost 5 = .ok (.ishr, 1) := by decide +kernel
theorem dX5_isLost_6 : decode cX5_isLost 6 = .ok (.iconst 1, 1) := by decide +kernel
theorem dX5_isLost_7 : decode cX5_isLost 7 = .ok (.iand, 1) := by decide +kernel
theorem dX5_isLost_8 : decode cX5_isLost 8 = .ok (.iconst 1, 1) := by decide +kernel
theorem dX5_isLost_9 : decode cX5_isLost 9 = .ok (.if_icmp .ne 7, 3) := by decide +kernel
theorem dX5_isLost_12 : decode cX5_isLost 12 = .ok (.iconst 1, 1) := by decide +kernel
theorem dX5_isLost_13 : decode cX5_isLost 13 = .ok (.goto 4, 3) := by decide +kernel
theorem dX5_isLost_16 : decode cX5_isLost 16 = .ok (.iconst 0, 1) := by decide +kernel
theorem dX5_isLost_17 : decode cX5_isLost 17 = .ok (.ireturn, 1) := by decide +kernel
theorem dX5_isHome_0 : decode cX5_isHome 0 = .ok (.aload_n 0, 1) := by decide +kernel
theorem dX5_isHome_1 : decode cX5_isHome 1 = .ok (.getfield 21, 3) := by decide +kernel
theorem dX5_isHome_4 : decode cX5_isHome 4 = .ok (.iload_n 1, 1) := by decide +kernel
theorem dX5_isHome_5 : decode cX5_isHome 5 = .ok (.ishr, 1) := by decide +kernel
theorem dX5_isHome_6 : decode cX5_isHome 6 = .ok (.iconst 1, 1) := by decide +kernel
theorem dX5_isHome_7 : decode cX5_isHome 7 = .ok (.iand, 1) := by decide +kernel
theorem dX5_isHome_8 : decode cX5_isHome 8 = .ok (.iconst 1, 1) := by decide +kernel
theorem dX5_isHome_9 : decode cX5_isHome 9 = .ok (.if_icmp .ne 7, 3) := by decide +kernel
theorem dX5_isHome_12 : decode cX5_isHome 12 = .ok (.iconst 1, 1) := by decide +kernel
theorem dX5_isHome_13 : decode cX5_isHome 13 = .ok (.goto 4, 3) := by decide +kernel
theorem dX5_isHome_16 : decode cX5_isHome 16 = .ok (.iconst 0, 1) := by decide +kernel
theorem dX5_isHome_17 : decode cX5_isHome 17 = .ok (.ireturn, 1) := by decide +kernel
theorem dX5_areTogether_0 : decode cX5_areTogether 0 = .ok (.aload_n 0, 1) := by decide +kernel
theorem dX5_areTogether_1 : decode cX5_areTogether 1 = .ok (.iload_n 1, 1) := by decide +kernel
theorem dX5_areTogether_2 : decode cX5_areTogether 2 = .ok (.invokevirtual 46, 3) := by decide +kernel
theorem dX5_areTogether_5 : decode cX5_areTogether 5 = .ok (.ifCond .eq 30, 3) := by decide +kernel
theorem dX5_areTogether_8 : decode cX5_areTogether 8 = .ok (.aload_n 0, 1) := by decide +kernel
theorem dX5_areTogether_9 : decode cX5_areTogether 9 = .ok (.iload_n 2, 1) := by decide +kernel
theorem dX5_areTogether_10 : decode cX5_areTogether 10 = .ok (.invokevirtual 46, 3) := by decide +kernel
theorem dX5_areTogether_13 : decode cX5_areTogether 13 = .ok (.ifCond .eq 22, 3) := by decide +kernel
theorem dX5_areTogether_16 : decode cX5_areTogether 16 = .ok (.aload_n 0, 1) := by decide +kernel
theorem dX5_areTogether_17 : decode cX5_areTogether 17 = .ok (.getfield 24, 3) := by decide +kernel
theorem dX5_areTogether_20 : decode cX5_areTogether 20 = .ok (.iload_n 1, 1) := by decide +kernel
theorem dX5_areTogether_21 : decode cX5_areTogether 21 = .ok (.iaload, 1) := by decide +kernel
theorem dX5_areTogether_22 : decode cX5_areTogether 22 = .ok (.aload_n 0, 1) := by decide +kernel
theorem dX5_areTogether_23 : decode cX5_areTogether 23 = .ok (.getfield 24, 3) := by decide +kernel
theorem dX5_areTogether_26 : decode cX5_areTogether 26 = .ok (.iload_n 2, 1) := by decide +kernel
theorem dX5_areTogether_27 : decode cX5_areTogether 27 = .ok (.iaload, 1) := by decide +kernel
theorem dX5_areTogether_28 : decode cX5_areTogether 28 = .ok (.if_icmp .ne 7, 3) := by decide +kernel
theorem dX5_areTogether_31 : decode cX5_areTogether 31 = .ok (.iconst 1, 1) := by decide +kernel
theorem dX5_areTogether_32 : decode cX5_areTogether 32 = .ok (.goto 4, 3) := by decide +kernel
theorem dX5_areTogether_35 : decode cX5_areTogether 35 = .ok (.iconst 0, 1) := by decide +kernel
theorem dX5_areTogether_36 : decode cX5_areTogether 36 = .ok (.ireturn, 1) := by decide +kernel
theorem dX5_eastOf_0 : decode cX5_eastOf 0 = .ok (.aload_n 0, 1) := by decide +kernel
theorem dX5_eastOf_1 : decode cX5_eastOf 1 = .ok (.iload_n 1, 1) := by decide +kernel
theorem dX5_eastOf_2 : decode cX5_eastOf 2 = .ok (.invokevirtual 50, 3) := by decide +kernel
theorem dX5_eastOf_5 : decode cX5_eastOf 5 = .ok (.ifCond .eq 8, 3) := by decide +kernel
theorem dX5_eastOf_8 : decode cX5_eastOf 8 = .ok (.bipush (-2), 2) := by decide +kernel
theorem dX5_eastOf_10 : decode cX5_eastOf 10 = .ok (.goto 12, 3) := by decide +kernel
theorem dX5_eastOf_13 : decode cX5_eastOf 13 = .ok (.aload_n 0, 1) := by decide +kernel
theorem dX5_eastOf_14 : decode cX5_eastOf 14 = .ok (.getfield 24, 3) := by decide +kernel
theorem dX5_eastOf_17 : decode cX5_eastOf 17 = .ok (.iload_n 1, 1) := by decide +kernel
theorem dX5_eastOf_18 : decode cX5_eastOf 18 = .ok (.iaload, 1) := by decide +kernel
theorem dX5_eastOf_19 : decode cX5_eastOf 19 = .ok (.bipush 8, 2) := by decide +kernel
theorem dX5_eastOf_21 : decode cX5_eastOf 21 = .ok (.irem, 1) := by decide +kernel
theorem dX5_eastOf_22 : decode cX5_eastOf 22 = .ok (.ireturn, 1) := by decide +kernel
theorem dX5_southOf_0 : decode cX5_southOf 0 = .ok (.aload_n 0, 1) := by decide +kernel
theorem dX5_southOf_1 : decode cX5_southOf 1 = .ok (.iload_n 1, 1) := by decide +kernel
theorem dX5_southOf_2 : decode cX5_southOf 2 = .ok (.invokevirtual 50, 3) := by decide +kernel
theorem dX5_southOf_5 : decode cX5_southOf 5 = .ok (.ifCond .eq 8, 3) := by decide +kernel
theorem dX5_southOf_8 : decode cX5_southOf 8 = .ok (.bipush (-2), 2) := by decide +kernel
theorem dX5_southOf_10 : decode cX5_southOf 10 = .ok (.goto 12, 3) := by decide +kernel
theorem dX5_southOf_13 : decode cX5_southOf 13 = .ok (.aload_n 0, 1) := by decide +kernel
theorem dX5_southOf_14 : decode cX5_southOf 14 = .ok (.getfield 24, 3) := by decide +kernel
theorem dX5_southOf_17 : decode cX5_southOf 17 = .ok (.iload_n 1, 1) := by decide +kernel
theorem dX5_southOf_18 : decode cX5_southOf 18 = .ok (.iaload, 1) := by decide +kernel
theorem dX5_southOf_19 : decode cX5_southOf 19 = .ok (.bipush 8, 2) := by decide +kernel
theorem dX5_southOf_21 : decode cX5_southOf 21 = .ok (.idiv, 1) := by decide +kernel
theorem dX5_southOf_22 : decode cX5_southOf 22 = .ok (.ireturn, 1) := by decide +kernel
theorem dX5_arrivalOf_0 : decode cX5_arrivalOf 0 = .ok (.aload_n 0, 1) := by decide +kernel
theorem dX5_arrivalOf_1 : decode cX5_arrivalOf 1 = .ok (.iload_n 1, 1) := by decide +kernel
theorem dX5_arrivalOf_2 : decode cX5_arrivalOf 2 = .ok (.invokevirtual 53, 3) := by decide +kernel
theorem dX5_arrivalOf_5 : decode cX5_arrivalOf 5 = .ok (.ifCond .eq 12, 3) := by decide +kernel
theorem dX5_arrivalOf_8 : decode cX5_arrivalOf 8 = .ok (.aload_n 0, 1) := by decide +kernel
theorem dX5_arrivalOf_9 : decode cX5_arrivalOf 9 = .ok (.getfield 28, 3) := by decide +kernel
theorem dX5_arrivalOf_12 : decode cX5_arrivalOf 12 = .ok (.iload_n 1, 1) := by decide +kernel
theorem dX5_arrivalOf_13 : decode cX5_arrivalOf 13 = .ok (.iaload, 1) := by decide +kernel
theorem dX5_arrivalOf_14 : decode cX5_arrivalOf 14 = .ok (.goto 5, 3) := by decide +kernel
theorem dX5_arrivalOf_17 : decode cX5_arrivalOf 17 = .ok (.bipush (-2), 2) := by decide +kernel
theorem dX5_arrivalOf_19 : decode cX5_arrivalOf 19 = .ok (.ireturn, 1) := by decide +kernel
theorem dX5_bringHome_0 : decode cX5_bringHome 0 = .ok (.aload_n 0, 1) := by decide +kernel
theorem dX5_bringHome_1 : decode cX5_bringHome 1 = .ok (.dup, 1) := by decide +kernel
theorem dX5_bringHome_2 : decode cX5_bringHome 2 = .ok (.getfield 21, 3) := by decide +kernel
theorem dX5_bringHome_5 : decode cX5_bringHome 5 = .ok (.iconst 1, 1) := by decide +kernel
theorem dX5_bringHome_6 : decode cX5_bringHome 6 = .ok (.iload_n 1, 1) := by decide +kernel
theorem dX5_bringHome_7 : decode cX5_bringHome 7 = .ok (.ishl, 1) := by decide +kernel
theorem dX5_bringHome_8 : decode cX5_bringHome 8 = .ok (.ior, 1) := by decide +kernel
theorem dX5_bringHome_9 : decode cX5_bringHome 9 = .ok (.putfield 21, 3) := by decide +kernel
theorem dX5_bringHome_12 : decode cX5_bringHome 12 = .ok (.aload_n 0, 1) := by decide +kernel
theorem dX5_bringHome_13 : decode cX5_bringHome 13 = .ok (.getfield 28, 3) := by decide +kernel
theorem dX5_bringHome_16 : decode cX5_bringHome 16 = .ok (.iload_n 1, 1) := by decide +kernel
theorem dX5_bringHome_17 : decode cX5_bringHome 17 = .ok (.aload_n 0, 1) := by decide +kernel
theorem dX5_bringHome_18 : decode cX5_bringHome 18 = .ok (.getfield 21, 3) := by decide +kernel
theorem dX5_bringHome_21 : decode cX5_bringHome 21 = .ok (.invokestatic 56, 3) := by decide +kernel
theorem dX5_bringHome_24 : decode cX5_bringHome 24 = .ok (.iastore, 1) := by decide +kernel
theorem dX5_bringHome_25 : decode cX5_bringHome 25 = .ok (.return_, 1) := by decide +kernel
theorem dX5_rankOf_0 : decode cX5_rankOf 0 = .ok (.iconst 0, 1) := by decide +kernel
theorem dX5_rankOf_1 : decode cX5_rankOf 1 = .ok (.istore_n 3, 1) := by decide +kernel
theorem dX5_rankOf_2 : decode cX5_rankOf 2 = .ok (.iconst 0, 1) := by decide +kernel
theorem dX5_rankOf_3 : decode cX5_rankOf 3 = .ok (.istore 4, 2) := by decide +kernel
theorem dX5_rankOf_5 : decode cX5_rankOf 5 = .ok (.iload 4, 2) := by decide +kernel
theorem dX5_rankOf_7 : decode cX5_rankOf 7 = .ok (.iload_n 2, 1) := by decide +kernel
theorem dX5_rankOf_8 : decode cX5_rankOf 8 = .ok (.if_icmp .ge 26, 3) := by decide +kernel
theorem dX5_rankOf_11 : decode cX5_rankOf 11 = .ok (.aload_n 0, 1) := by decide +kernel
theorem dX5_rankOf_12 : decode cX5_rankOf 12 = .ok (.iload 4, 2) := by decide +kernel
theorem dX5_rankOf_14 : decode cX5_rankOf 14 = .ok (.invokevirtual 62, 3) := by decide +kernel
theorem dX5_rankOf_17 : decode cX5_rankOf 17 = .ok (.aload_n 0, 1) := by decide +kernel
theorem dX5_rankOf_18 : decode cX5_rankOf 18 = .ok (.iload_n 1, 1) := by decide +kernel
theorem dX5_rankOf_19 : decode cX5_rankOf 19 = .ok (.invokevirtual 62, 3) := by decide +kernel
theorem dX5_rankOf_22 : decode cX5_rankOf 22 = .ok (.if_icmp .ge 6, 3) := by decide +kernel
theorem dX5_rankOf_25 : decode cX5_rankOf 25 = .ok (.iinc 3 1, 3) := by decide +kernel
theorem dX5_rankOf_28 : decode cX5_rankOf 28 = .ok (.iinc 4 1, 3) := by decide +kernel
theorem dX5_rankOf_31 : decode cX5_rankOf 31 = .ok (.goto (-26), 3) := by decide +kernel
theorem dX5_rankOf_34 : decode cX5_rankOf 34 = .ok (.iload_n 3, 1) := by decide +kernel
theorem dX5_rankOf_35 : decode cX5_rankOf 35 = .ok (.ireturn, 1) := by decide +kernel
theorem dX5_boatRanked_0 : decode cX5_boatRanked 0 = .ok (.iconst 0, 1) := by decide +kernel
theorem dX5_boatRanked_1 : decode cX5_boatRanked 1 = .ok (.istore_n 3, 1) := by decide +kernel
theorem dX5_boatRanked_2 : decode cX5_boatRanked 2 = .ok (.iload_n 3, 1) := by decide +kernel
theorem dX5_boatRanked_3 : decode cX5_boatRanked 3 = .ok (.iload_n 2, 1) := by decide +kernel
theorem dX5_boatRanked_4 : decode cX5_boatRanked 4 = .ok (.if_icmp .ge 21, 3) := by decide +kernel
theorem dX5_boatRanked_7 : decode cX5_boatRanked 7 = .ok (.aload_n 0, 1) := by decide +kernel
theorem dX5_boatRanked_8 : decode cX5_boatRanked 8 = .ok (.iload_n 3, 1) := by decide +kernel
theorem dX5_boatRanked_9 : decode cX5_boatRanked 9 = .ok (.iload_n 2, 1) := by decide +kernel
theorem dX5_boatRanked_10 : decode cX5_boatRanked 10 = .ok (.invokevirtual 65, 3) := by decide +kernel
theorem dX5_boatRanked_13 : decode cX5_boatRanked 13 = .ok (.iload_n 1, 1) := by decide +kernel
theorem dX5_boatRanked_14 : decode cX5_boatRanked 14 = .ok (.if_icmp .ne 5, 3) := by decide +kernel
theorem dX5_boatRanked_17 : decode cX5_boatRanked 17 = .ok (.iload_n 3, 1) := by decide +kernel
theorem dX5_boatRanked_18 : decode cX5_boatRanked 18 = .ok (.ireturn, 1) := by decide +kernel
theorem dX5_boatRanked_19 : decode cX5_boatRanked 19 = .ok (.iinc 3 1, 3) := by decide +kernel
theorem dX5_boatRanked_22 : decode cX5_boatRanked 22 = .ok (.goto (-20), 3) := by decide +kernel
theorem dX5_boatRanked_25 : decode cX5_boatRanked 25 = .ok (.iconst (-1), 1) := by decide +kernel
theorem dX5_boatRanked_26 : decode cX5_boatRanked 26 = .ok (.ireturn, 1) := by decide +kernel
theorem dX5_behindness_0 : decode cX5_behindness 0 = .ok (.aload_n 0, 1) := by decide +kernel
theorem dX5_behindness_1 : decode cX5_behindness 1 = .ok (.iload_n 1, 1) := by decide +kernel
theorem dX5_behindness_2 : decode cX5_behindness 2 = .ok (.invokevirtual 53, 3) := by decide +kernel
theorem dX5_behindness_5 : decode cX5_behindness 5 = .ok (.ifCond .eq 10, 3) := by decide +kernel
theorem dX5_behindness_8 : decode cX5_behindness 8 = .ok (.aload_n 0, 1) := by decide +kernel
theorem dX5_behindness_9 : decode cX5_behindness 9 = .ok (.getfield 28, 3) := by decide +kernel
theorem dX5_behindness_12 : decode cX5_behindness 12 = .ok (.iload_n 1, 1) := by decide +kernel
theorem dX5_behindness_13 : decode cX5_behindness 13 = .ok (.iaload, 1) := by decide +kernel
theorem dX5_behindness_14 : decode cX5_behindness 14 = .ok (.ireturn, 1) := by decide +kernel
theorem dX5_behindness_15 : decode cX5_behindness 15 = .ok (.aload_n 0, 1) := by decide +kernel
theorem dX5_behindness_16 : decode cX5_behindness 16 = .ok (.iload_n 1, 1) := by decide +kernel
theorem dX5_behindness_17 : decode cX5_behindness 17 = .ok (.invokevirtual 50, 3) := by decide +kernel
theorem dX5_behindness_20 : decode cX5_behindness 20 = .ok (.ifCond .eq 9, 3) := by decide +kernel
theorem dX5_behindness_23 : decode cX5_behindness 23 = .ok (.sipush 1000, 3) := by decide +kernel
theorem dX5_behindness_26 : decode cX5_behindness 26 = .ok (.iload_n 1, 1) := by decide +kernel
theorem dX5_behindness_27 : decode cX5_behindness 27 = .ok (.iadd, 1) := by decide +kernel
theorem dX5_behindness_28 : decode cX5_behindness 28 = .ok (.ireturn, 1) := by decide +kernel
theorem dX5_behindness_29 : decode cX5_behindness 29 = .ok (.bipush 10, 2) := by decide +kernel
theorem dX5_behindness_31 : decode cX5_behindness 31 = .ok (.bipush 8, 2) := by decide +kernel
theorem dX5_behindness_33 : decode cX5_behindness 33 = .ok (.aload_n 0, 1) := by decide +kernel
theorem dX5_behindness_34 : decode cX5_behindness 34 = .ok (.iload_n 1, 1) := by decide +kernel
theorem dX5_behindness_35 : decode cX5_behindness 35 = .ok (.invokevirtual 69, 3) := by decide +kernel
theorem dX5_behindness_38 : decode cX5_behindness 38 = .ok (.isub, 1) := by decide +kernel
theorem dX5_behindness_39 : decode cX5_behindness 39 = .ok (.imul, 1) := by decide +kernel
theorem dX5_behindness_40 : decode cX5_behindness 40 = .ok (.iload_n 1, 1) := by decide +kernel
theorem dX5_behindness_41 : decode cX5_behindness 41 = .ok (.iadd, 1) := by decide +kernel
theorem dX5_behindness_42 : decode cX5_behindness 42 = .ok (.ireturn, 1) := by decide +kernel
theorem dX5_lay_0 : decode cX5_lay 0 = .ok (.aload_n 0, 1) := by decide +kernel
theorem dX5_lay_1 : decode cX5_lay 1 = .ok (.getfield 31, 3) := by decide +kernel
theorem dX5_lay_4 : decode cX5_lay 4 = .ok (.iload_n 1, 1) := by decide +kernel
theorem dX5_lay_5 : decode cX5_lay 5 = .ok (.bipush 16, 2) := by decide +kernel
theorem dX5_lay_7 : decode cX5_lay 7 = .ok (.aload_n 0, 1) := by decide +kernel
theorem dX5_lay_8 : decode cX5_lay 8 = .ok (.getfield 9, 3) := by decide +kernel
theorem dX5_lay_11 : decode cX5_lay 11 = .ok (.iconst 1, 1) := by decide +kernel
theorem dX5_lay_12 : decode cX5_lay 12 = .ok (.iadd, 1) := by decide +kernel
theorem dX5_lay_13 : decode cX5_lay 13 = .ok (.imul, 1) := by decide +kernel
theorem dX5_lay_14 : decode cX5_lay 14 = .ok (.iload_n 2, 1) := by decide +kernel
theorem dX5_lay_15 : decode cX5_lay 15 = .ok (.iadd, 1) := by decide +kernel
theorem dX5_lay_16 : decode cX5_lay 16 = .ok (.iastore, 1) := by decide +kernel
theorem dX5_lay_17 : decode cX5_lay 17 = .ok (.return_, 1) := by decide +kernel
theorem dX5_wasLaid_0 : decode cX5_wasLaid 0 = .ok (.aload_n 0, 1) := by decide +kernel
theorem dX5_wasLaid_1 : decode cX5_wasLaid 1 = .ok (.getfield 31, 3) := by decide +kernel
theorem dX5_wasLaid_4 : decode cX5_wasLaid 4 = .ok (.iload_n 1, 1) := by decide +kernel
theorem dX5_wasLaid_5 : decode cX5_wasLaid 5 = .ok (.iaload, 1) := by decide +kernel
theorem dX5_wasLaid_6 : decode cX5_wasLaid 6 = .ok (.ifCond .eq 7, 3) := by decide +kernel
theorem dX5_wasLaid_9 : decode cX5_wasLaid 9 = .ok (.iconst 1, 1) := by decide +kernel
theorem dX5_wasLaid_10 : decode cX5_wasLaid 10 = .ok (.goto 4, 3) := by decide +kernel
theorem dX5_wasLaid_13 : decode cX5_wasLaid 13 = .ok (.iconst 0, 1) := by decide +kernel
theorem dX5_wasLaid_14 : decode cX5_wasLaid 14 = .ok (.ireturn, 1) := by decide +kernel
theorem dX5_laidHour_0 : decode cX5_laidHour 0 = .ok (.aload_n 0, 1) := by decide +kernel
theorem dX5_laidHour_1 : decode cX5_laidHour 1 = .ok (.getfield 31, 3) := by decide +kernel
theorem dX5_laidHour_4 : decode cX5_laidHour 4 = .ok (.iload_n 1, 1) := by decide +kernel
theorem dX5_laidHour_5 : decode cX5_laidHour 5 = .ok (.iaload, 1) := by decide +kernel
theorem dX5_laidHour_6 : decode cX5_laidHour 6 = .ok (.bipush 16, 2) := by decide +kernel
theorem dX5_laidHour_8 : decode cX5_laidHour 8 = .ok (.idiv, 1) := by decide +kernel
theorem dX5_laidHour_9 : decode cX5_laidHour 9 = .ok (.iconst 1, 1) := by decide +kernel
theorem dX5_laidHour_10 : decode cX5_laidHour 10 = .ok (.isub, 1) := by decide +kernel
theorem dX5_laidHour_11 : decode cX5_laidHour 11 = .ok (.ireturn, 1) := by decide +kernel
theorem dX5_liesTill_0 : decode cX5_liesTill 0 = .ok (.aload_n 0, 1) := by decide +kernel
theorem dX5_liesTill_1 : decode cX5_liesTill 1 = .ok (.getfield 31, 3) := by decide +kernel
theorem dX5_liesTill_4 : decode cX5_liesTill 4 = .ok (.iload_n 1, 1) := by decide +kernel
theorem dX5_liesTill_5 : decode cX5_liesTill 5 = .ok (.iaload, 1) := by decide +kernel
theorem dX5_liesTill_6 : decode cX5_liesTill 6 = .ok (.bipush 16, 2) := by decide +kernel
theorem dX5_liesTill_8 : decode cX5_liesTill 8 = .ok (.idiv, 1) := by decide +kernel
theorem dX5_liesTill_9 : decode cX5_liesTill 9 = .ok (.iconst 1, 1) := by decide +kernel
theorem dX5_liesTill_10 : decode cX5_liesTill 10 = .ok (.isub, 1) := by decide +kernel
theorem dX5_liesTill_11 : decode cX5_liesTill 11 = .ok (.aload_n 0, 1) := by decide +kernel
theorem dX5_liesTill_12 : decode cX5_liesTill 12 = .ok (.getfield 31, 3) := by decide +kernel
theorem dX5_liesTill_15 : decode cX5_liesTill 15 = .ok (.iload_n 1, 1) := by decide +kernel
theorem dX5_liesTill_16 : decode cX5_liesTill 16 = .ok (.iaload, 1) := by decide +kernel
theorem dX5_liesTill_17 : decode cX5_liesTill 17 = .ok (.bipush 16, 2) := by decide +kernel
theorem dX5_liesTill_19 : decode cX5_liesTill 19 = .ok (.irem, 1) := by decide +kernel
theorem dX5_liesTill_20 : decode cX5_liesTill 20 = .ok (.iadd, 1) := by decide +kernel
theorem dX5_liesTill_21 : decode cX5_liesTill 21 = .ok (.ireturn, 1) := by decide +kernel
theorem dX5_lies_0 : decode cX5_lies 0 = .ok (.aload_n 0, 1) := by decide +kernel
theorem dX5_lies_1 : decode cX5_lies 1 = .ok (.iload_n 1, 1) := by decide +kernel
theorem dX5_lies_2 : decode cX5_lies 2 = .ok (.invokevirtual 72, 3) := by decide +kernel
theorem dX5_lies_5 : decode cX5_lies 5 = .ok (.ifCond .eq 19, 3) := by decide +kernel
theorem dX5_lies_8 : decode cX5_lies 8 = .ok (.aload_n 0, 1) := by decide +kernel
theorem dX5_lies_9 : decode cX5_lies 9 = .ok (.getfield 9, 3) := by decide +kernel
theorem dX5_lies_12 : decode cX5_lies 12 = .ok (.aload_n 0, 1) := by decide +kernel
theorem dX5_lies_13 : decode cX5_lies 13 = .ok (.iload_n 1, 1) := by decide +kernel
theorem dX5_lies_14 : decode cX5_lies 14 = .ok (.invokevirtual 75, 3) := by decide +kernel
theorem dX5_lies_17 : decode cX5_lies 17 = .ok (.if_icmp .gt 7, 3) := by decide +kernel
theorem dX5_lies_20 : decode cX5_lies 20 = .ok (.iconst 1, 1) := by decide +kernel
theorem dX5_lies_21 : decode cX5_lies 21 = .ok (.goto 4, 3) := by decide +kernel
theorem dX5_lies_24 : decode cX5_lies 24 = .ok (.iconst 0, 1) := by decide +kernel
theorem dX5_lies_25 : decode cX5_lies 25 = .ok (.ireturn, 1) := by decide +kernel
theorem dX5_dishesIn_0 : decode cX5_dishesIn 0 = .ok (.iconst 0, 1) := by decide +kernel
theorem dX5_dishesIn_1 : decode cX5_dishesIn 1 = .ok (.istore_n 3, 1) := by decide +kernel
theorem dX5_dishesIn_2 : decode cX5_dishesIn 2 = .ok (.iconst 0, 1) := by decide +kernel
theorem dX5_dishesIn_3 : decode cX5_dishesIn 3 = .ok (.istore 4, 2) := by decide +kernel
theorem dX5_dishesIn_5 : decode cX5_dishesIn 5 = .ok (.iload 4, 2) := by decide +kernel
theorem dX5_dishesIn_7 : decode cX5_dishesIn 7 = .ok (.iload_n 2, 1) := by decide +kernel
theorem dX5_dishesIn_8 : decode cX5_dishesIn 8 = .ok (.if_icmp .ge 30, 3) := by decide +kernel
theorem dX5_dishesIn_11 : decode cX5_dishesIn 11 = .ok (.aload_n 0, 1) := by decide +kernel
theorem dX5_dishesIn_12 : decode cX5_dishesIn 12 = .ok (.bipush 40, 2) := by decide +kernel
theorem dX5_dishesIn_14 : decode cX5_dishesIn 14 = .ok (.iload 4, 2) := by decide +kernel
theorem dX5_dishesIn_16 : decode cX5_dishesIn 16 = .ok (.imul, 1) := by decide +kernel
theorem dX5_dishesIn_17 : decode cX5_dishesIn 17 = .ok (.iload_n 1, 1) := by decide +kernel
theorem dX5_dishesIn_18 : decode cX5_dishesIn 18 = .ok (.iadd, 1) := by decide +kernel
theorem dX5_dishesIn_19 : decode cX5_dishesIn 19 = .ok (.invokevirtual 78, 3) := by decide +kernel
theorem dX5_dishesIn_22 : decode cX5_dishesIn 22 = .ok (.ifCond .eq 10, 3) := by decide +kernel
theorem dX5_dishesIn_25 : decode cX5_dishesIn 25 = .ok (.iload_n 3, 1) := by decide +kernel
theorem dX5_dishesIn_26 : decode cX5_dishesIn 26 = .ok (.iconst 1, 1) := by decide +kernel
theorem dX5_dishesIn_27 : decode cX5_dishesIn 27 = .ok (.iload 4, 2) := by decide +kernel
theorem dX5_dishesIn_29 : decode cX5_dishesIn 29 = .ok (.ishl, 1) := by decide +kernel
theorem dX5_dishesIn_30 : decode cX5_dishesIn 30 = .ok (.ior, 1) := by decide +kernel
theorem dX5_dishesIn_31 : decode cX5_dishesIn 31 = .ok (.istore_n 3, 1) := by decide +kernel
theorem dX5_dishesIn_32 : decode cX5_dishesIn 32 = .ok (.iinc 4 1, 3) := by decide +kernel
theorem dX5_dishesIn_35 : decode cX5_dishesIn 35 = .ok (.goto (-30), 3) := by decide +kernel
theorem dX5_dishesIn_38 : decode cX5_dishesIn 38 = .ok (.iload_n 3, 1) := by decide +kernel
theorem dX5_dishesIn_39 : decode cX5_dishesIn 39 = .ok (.ireturn, 1) := by decide +kernel
theorem dX6_add_0 : decode cX6_add 0 = .ok (.aload_n 0, 1) := by decide +kernel
theorem dX6_add_1 : decode cX6_add 1 = .ok (.getfield 9, 3) := by decide +kernel
theorem dX6_add_4 : decode cX6_add 4 = .ok (.bipush 20, 2) := by decide +kernel
theorem dX6_add_6 : decode cX6_add 6 = .ok (.if_icmp .lt 5, 3) := by decide +kernel
theorem dX6_add_9 : decode cX6_add 9 = .ok (.iconst (-1), 1) := by decide +kernel
theorem dX6_add_10 : decode cX6_add 10 = .ok (.ireturn, 1) := by decide +kernel
theorem dX6_add_11 : decode cX6_add 11 = .ok (.aload_n 0, 1) := by decide +kernel
theorem dX6_add_12 : decode cX6_add 12 = .ok (.getfield 15, 3) := by decide +kernel
theorem dX6_add_15 : decode cX6_add 15 = .ok (.aload_n 0, 1) := by decide +kernel
theorem dX6_add_16 : decode cX6_add 16 = .ok (.getfield 9, 3) := by decide +kernel
theorem dX6_add_19 : decode cX6_add 19 = .ok (.iload_n 1, 1) := by decide +kernel
theorem dX6_add_20 : decode cX6_add 20 = .ok (.iastore, 1) := by decide +kernel
theorem dX6_add_21 : decode cX6_add 21 = .ok (.aload_n 0, 1) := by decide +kernel
theorem dX6_add_22 : decode cX6_add 22 = .ok (.getfield 19, 3) := by decide +kernel
theorem dX6_add_25 : decode cX6_add 25 = .ok (.aload_n 0, 1) := by decide +kernel
theorem dX6_add_26 : decode cX6_add 26 = .ok (.getfield 9, 3) := by decide +kernel
theorem dX6_add_29 : decode cX6_add 29 = .ok (.iload_n 2, 1) := by decide +kernel
theorem dX6_add_30 : decode cX6_add 30 = .ok (.iastore, 1) := by decide +kernel
theorem dX6_add_31 : decode cX6_add 31 = .ok (.aload_n 0, 1) := by decide +kernel
theorem dX6_add_32 : decode cX6_add 32 = .ok (.dup, 1) := by decide +kernel
theorem dX6_add_33 : decode cX6_add 33 = .ok (.getfield 9, 3) := by decide +kernel
theorem dX6_add_36 : decode cX6_add 36 = .ok (.iconst 1, 1) := by decide +kernel
theorem dX6_add_37 : decode cX6_add 37 = .ok (.iadd, 1) := by decide +kernel
theorem dX6_add_38 : decode cX6_add 38 = .ok (.putfield 9, 3) := by decide +kernel
theorem dX6_add_41 : decode cX6_add 41 = .ok (.aload_n 0, 1) := by decide +kernel
theorem dX6_add_42 : decode cX6_add 42 = .ok (.getfield 9, 3) := by decide +kernel
theorem dX6_add_45 : decode cX6_add 45 = .ok (.iconst 1, 1) := by decide +kernel
theorem dX6_add_46 : decode cX6_add 46 = .ok (.isub, 1) := by decide +kernel
theorem dX6_add_47 : decode cX6_add 47 = .ok (.ireturn, 1) := by decide +kernel
theorem dX6_allowFirst_0 : decode cX6_allowFirst 0 = .ok (.aload_n 0, 1) := by decide +kernel
theorem dX6_allowFirst_1 : decode cX6_allowFirst 1 = .ok (.getfield 22, 3) := by decide +kernel
theorem dX6_allowFirst_4 : decode cX6_allowFirst 4 = .ok (.iconst 1, 1) := by decide +kernel
theorem dX6_allowFirst_5 : decode cX6_allowFirst 5 = .ok (.iload_n 2, 1) := by decide +kernel
theorem dX6_allowFirst_6 : decode cX6_allowFirst 6 = .ok (.ishl, 1) := by decide +kernel
theorem dX6_allowFirst_7 : decode cX6_allowFirst 7 = .ok (.iconst 1, 1) := by decide +kernel
theorem dX6_allowFirst_8 : decode cX6_allowFirst 8 = .ok (.isub, 1) := by decide +kernel
theorem dX6_allowFirst_9 : decode cX6_allowFirst 9 = .ok (.invokestatic 28, 3) := by decide +kernel
theorem dX6_allowFirst_12 : decode cX6_allowFirst 12 = .ok (.iconst 0, 1) := by decide +kernel
theorem dX6_allowFirst_13 : decode cX6_allowFirst 13 = .ok (.istore_n 3, 1) := by decide +kernel
theorem dX6_allowFirst_14 : decode cX6_allowFirst 14 = .ok (.iload_n 3, 1) := by decide +kernel
theorem dX6_allowFirst_15 : decode cX6_allowFirst 15 = .ok (.iload_n 1, 1) := by decide +kernel
theorem dX6_allowFirst_16 : decode cX6_allowFirst 16 = .ok (.if_icmp .ge 37, 3) := by decide +kernel
theorem dX6_allowFirst_19 : decode cX6_allowFirst 19 = .ok (.iload_n 3, 1) := by decide +kernel
theorem dX6_allowFirst_20 : decode cX6_allowFirst 20 = .ok (.aload_n 0, 1) := by decide +kernel
theorem dX6_allowFirst_21 : decode cX6_allowFirst 21 = .ok (.getfield 9, 3) := by decide +kernel
theorem dX6_allowFirst_24 : decode cX6_allowFirst 24 = .ok (.if_icmp .ge 29, 3) := by decide +kernel
theorem dX6_allowFirst_27 : decode cX6_allowFirst 27 = .ok (.aload_n 0, 1) := by decide +kernel
theorem dX6_allowFirst_28 : decode cX6_allowFirst 28 = .ok (.getfield 22, 3) := by decide +kernel
theorem dX6_allowFirst_31 : decode cX6_allowFirst 31 = .ok (.aload_n 0, 1) := by decide +kernel
theorem dX6_allowFirst_32 : decode cX6_allowFirst 32 = .ok (.getfield 15, 3) := by decide +kernel
theorem dX6_allowFirst_35 : decode cX6_allowFirst 35 = .ok (.iload_n 3, 1) := by decide +kernel
theorem dX6_allowFirst_36 : decode cX6_allowFirst 36 = .ok (.iaload, 1) := by decide +kernel
theorem dX6_allowFirst_37 : decode cX6_allowFirst 37 = .ok (.dup2, 1) := by decide +kernel
theorem dX6_allowFirst_38 : decode cX6_allowFirst 38 = .ok (.iaload, 1) := by decide +kernel
theorem dX6_allowFirst_39 : decode cX6_allowFirst 39 = .ok (.aload_n 0, 1) := by decide +kernel
theorem dX6_allowFirst_40 : decode cX6_allowFirst 40 = .ok (.getfield 19, 3) := by decide +kernel
theorem dX6_allowFirst_43 : decode cX6_allowFirst 43 = .ok (.iload_n 3, 1) := by decide +kernel
theorem dX6_allowFirst_44 : decode cX6_allowFirst 44 = .ok (.iaload, 1) := by decide +kernel
theorem dX6_allowFirst_45 : decode cX6_allowFirst 45 = .ok (.iand, 1) := by decide +kernel
theorem dX6_allowFirst_46 : decode cX6_allowFirst 46 = .ok (.iastore, 1) := by decide +kernel
theorem dX6_allowFirst_47 : decode cX6_allowFirst 47 = .ok (.iinc 3 1, 3) := by decide +kernel
theorem dX6_allowFirst_50 : decode cX6_allowFirst 50 = .ok (.goto (-36), 3) := by decide +kernel
theorem dX6_allowFirst_53 : decode cX6_allowFirst 53 = .ok (.return_, 1) := by decide +kernel
theorem dX6_waysLeft_0 : decode cX6_waysLeft 0 = .ok (.iconst 1, 1) := by decide +kernel
theorem dX6_waysLeft_1 : decode cX6_waysLeft 1 = .ok (.iload_n 1, 1) := by decide +kernel
theorem dX6_waysLeft_2 : decode cX6_waysLeft 2 = .ok (.ishl, 1) := by decide +kernel
theorem dX6_waysLeft_3 : decode cX6_waysLeft 3 = .ok (.iconst 1, 1) := by decide +kernel
theorem dX6_waysLeft_4 : decode cX6_waysLeft 4 = .ok (.isub, 1) := by decide +kernel
theorem dX6_waysLeft_5 : decode cX6_waysLeft 5 = .ok (.istore_n 2, 1) := by decide +kernel
theorem dX6_waysLeft_6 : decode cX6_waysLeft 6 = .ok (.aload_n 0, 1) := by decide +kernel
theorem dX6_waysLeft_7 : decode cX6_waysLeft 7 = .ok (.getfield 25, 3) := by decide +kernel
theorem dX6_waysLeft_10 : decode cX6_waysLeft 10 = .ok (.iconst 0, 1) := by decide +kernel
theorem dX6_waysLeft_11 : decode cX6_waysLeft 11 = .ok (.invokestatic 28, 3) := by decide +kernel
theorem dX6_waysLeft_14 : decode cX6_waysLeft 14 = .ok (.aload_n 0, 1) := by decide +kernel
theorem dX6_waysLeft_15 : decode cX6_waysLeft 15 = .ok (.getfield 25, 3) := by decide +kernel
theorem dX6_waysLeft_18 : decode cX6_waysLeft 18 = .ok (.iconst 0, 1) := by decide +kernel
theorem dX6_waysLeft_19 : decode cX6_waysLeft 19 = .ok (.iconst 1, 1) := by decide +kernel
theorem dX6_waysLeft_20 : decode cX6_waysLeft 20 = .ok (.iastore, 1) := by decide +kernel
theorem dX6_waysLeft_21 : decode cX6_waysLeft 21 = .ok (.iconst 0, 1) := by decide +kernel
theorem dX6_waysLeft_22 : decode cX6_waysLeft 22 = .ok (.istore_n 3, 1) := by decide +kernel
theorem dX6_waysLeft_23 : decode cX6_waysLeft 23 = .ok (.iload_n 3, 1) := by decide +kernel
theorem dX6_waysLeft_24 : decode cX6_waysLeft 24 = .ok (.iload_n 2, 1) := by decide +kernel
theorem dX6_waysLeft_25 : decode cX6_waysLeft 25 = .ok (.if_icmp .ge 70, 3) := by decide +kernel
theorem dX6_waysLeft_28 : decode cX6_waysLeft 28 = .ok (.aload_n 0, 1) := by decide +kernel
theorem dX6_waysLeft_29 : decode cX6_waysLeft 29 = .ok (.getfield 22, 3) := by decide +kernel
theorem dX6_waysLeft_32 : decode cX6_waysLeft 32 = .ok (.iload_n 3, 1) := by decide +kernel
theorem dX6_waysLeft_33 : decode cX6_waysLeft 33 = .ok (.invokestatic 34, 3) := by decide +kernel
theorem dX6_waysLeft_36 : decode cX6_waysLeft 36 = .ok (.iaload, 1) := by decide +kernel
theorem dX6_waysLeft_37 : decode cX6_waysLeft 37 = .ok (.iload_n 3, 1) := by decide +kernel
theorem dX6_waysLeft_38 : decode cX6_waysLeft 38 = .ok (.iconst (-1), 1) := by decide +kernel
theorem dX6_waysLeft_39 : decode cX6_waysLeft 39 = .ok (.ixor, 1) := by decide +kernel
theorem dX6_waysLeft_40 : decode cX6_waysLeft 40 = .ok (.iand, 1) := by decide +kernel
theorem dX6_waysLeft_41 : decode cX6_waysLeft 41 = .ok (.istore 4, 2) := by decide +kernel
theorem dX6_waysLeft_43 : decode cX6_waysLeft 43 = .ok (.iconst 0, 1) := by decide +kernel
theorem dX6_waysLeft_44 : decode cX6_waysLeft 44 = .ok (.istore 5, 2) := by decide +kernel
theorem dX6_waysLeft_46 : decode cX6_waysLeft 46 = .ok (.iload 5, 2) := by decide +kernel
theorem dX6_waysLeft_48 : decode cX6_waysLeft 48 = .ok (.iload_n 1, 1) := by decide +kernel
theorem dX6_waysLeft_49 : decode cX6_waysLeft 49 = .ok (.if_icmp .ge 40, 3) := by decide +kernel
theorem dX6_waysLeft_52 : decode cX6_waysLeft 52 = .ok (.iload 4, 2) := by decide +kernel
theorem dX6_waysLeft_54 : decode cX6_waysLeft 54 = .ok (.iload 5, 2) := by decide +kernel
theorem dX6_waysLeft_56 : decode cX6_waysLeft 56 = .ok (.ishr, 1) := by decide +kernel
theorem dX6_waysLeft_57 : decode cX6_waysLeft 57 = .ok (.iconst 1, 1) := by decide +kernel
theorem dX6_waysLeft_58 : decode cX6_waysLeft 58 = .ok (.iand, 1) := by decide +kernel
theorem dX6_waysLeft_59 : decode cX6_waysLeft 59 = .ok (.iconst 1, 1) := by decide +kernel
theorem dX6_waysLeft_60 : decode cX6_waysLeft 60 = .ok (.if_icmp .ne 23, 3) := by decide +kernel
theorem dX6_waysLeft_63 : decode cX6_waysLeft 63 = .ok (.aload_n 0, 1) := by decide +kernel
theorem dX6_waysLeft_64 : decode cX6_waysLeft 64 = .ok (.getfield 25, 3) := by decide +kernel
theorem dX6_waysLeft_67 : decode cX6_waysLeft 67 = .ok (.iload_n 3, 1) := by decide +kernel
theorem dX6_waysLeft_68 : decode cX6_waysLeft 68 = .ok (.iconst 1, 1) := by decide +kernel
theorem dX6_waysLeft_69 : decode cX6_waysLeft 69 = .ok (.iload 5, 2) := by decide +kernel
theorem dX6_waysLeft_71 : decode cX6_waysLeft 71 = .ok (.ishl, 1) := by decide +kernel
theorem dX6_waysLeft_72 : decode cX6_waysLeft 72 = .ok (.ior, 1) := by decide +kernel
theorem dX6_waysLeft_73 : decode cX6_waysLeft 73 = .ok (.dup2, 1) := by decide +kernel
theorem dX6_waysLeft_74 : decode cX6_waysLeft 74 = .ok (.iaload, 1) := by decide +kernel
theorem dX6_waysLeft_75 : decode cX6_waysLeft 75 = .ok (.aload_n 0, 1) := by decide +kernel
theorem dX6_waysLeft_76 : decode cX6_waysLeft 76 = .ok (.getfield 25, 3) := by decide +kernel
theorem dX6_waysLeft_79 : decode cX6_waysLeft 79 = .ok (.iload_n 3, 1) := by decide +kernel
theorem dX6_waysLeft_80 : decode cX6_waysLeft 80 = .ok (.iaload, 1) := by decide +kernel
theorem dX6_waysLeft_81 : decode cX6_waysLeft 81 = .ok (.iadd, 1) := by decide +kernel
theorem dX6_waysLeft_82 : decode cX6_waysLeft 82 = .ok (.iastore, 1) := by decide +kernel
theorem dX6_waysLeft_83 : decode cX6_waysLeft 83 = .ok (.iinc 5 1, 3) := by decide +kernel
theorem dX6_waysLeft_86 : decode cX6_waysLeft 86 = .ok (.goto (-40), 3) := by decide +kernel
theorem dX6_waysLeft_89 : decode cX6_waysLeft 89 = .ok (.iinc 3 1, 3) := by decide +kernel
theorem dX6_waysLeft_92 : decode cX6_waysLeft 92 = .ok (.goto (-69), 3) := by decide +kernel
theorem dX6_waysLeft_95 : decode cX6_waysLeft 95 = .ok (.aload_n 0, 1) := by decide +kernel
theorem dX6_waysLeft_96 : decode cX6_waysLeft 96 = .ok (.getfield 25, 3) := by decide +kernel
theorem dX6_waysLeft_99 : decode cX6_waysLeft 99 = .ok (.iload_n 2, 1) := by decide +kernel
theorem dX6_waysLeft_100 : decode cX6_waysLeft 100 = .ok (.iaload, 1) := by decide +kernel
theorem dX6_waysLeft_101 : decode cX6_waysLeft 101 = .ok (.ireturn, 1) := by decide +kernel
theorem dX6_ownerOf_0 : decode cX6_ownerOf 0 = .ok (.aload_n 0, 1) := by decide +kernel
theorem dX6_ownerOf_1 : decode cX6_ownerOf 1 = .ok (.iload_n 2, 1) := by decide +kernel
theorem dX6_ownerOf_2 : decode cX6_ownerOf 2 = .ok (.invokevirtual 40, 3) := by decide +kernel
theorem dX6_ownerOf_5 : decode cX6_ownerOf 5 = .ok (.istore_n 3, 1) := by decide +kernel
theorem dX6_ownerOf_6 : decode cX6_ownerOf 6 = .ok (.aload_n 0, 1) := by decide +kernel
theorem dX6_ownerOf_7 : decode cX6_ownerOf 7 = .ok (.getfield 22, 3) := by decide +kernel
theorem dX6_ownerOf_10 : decode cX6_ownerOf 10 = .ok (.iload_n 1, 1) := by decide +kernel
theorem dX6_ownerOf_11 : decode cX6_ownerOf 11 = .ok (.iaload, 1) := by decide +kernel
theorem dX6_ownerOf_12 : decode cX6_ownerOf 12 = .ok (.istore 4, 2) := by decide +kernel
theorem dX6_ownerOf_14 : decode cX6_ownerOf 14 = .ok (.iconst 0, 1) := by decide +kernel
theorem dX6_ownerOf_15 : decode cX6_ownerOf 15 = .ok (.istore 5, 2) := by decide +kernel
theorem dX6_ownerOf_17 : decode cX6_ownerOf 17 = .ok (.iload 5, 2) := by decide +kernel
theorem dX6_ownerOf_19 : decode cX6_ownerOf 19 = .ok (.iload_n 2, 1) := by decide +kernel
theorem dX6_ownerOf_20 : decode cX6_ownerOf 20 = .ok (.if_icmp .ge 38, 3) := by decide +kernel
theorem dX6_ownerOf_23 : decode cX6_ownerOf 23 = .ok (.iload_n 3, 1) := by decide +kernel
theorem dX6_ownerOf_24 : decode cX6_ownerOf 24 = .ok (.ifCond .le 34, 3) := by decide +kernel
theorem dX6_ownerOf_27 : decode cX6_ownerOf 27 = .ok (.aload_n 0, 1) := by decide +kernel
theorem dX6_ownerOf_28 : decode cX6_ownerOf 28 = .ok (.getfield 22, 3) := by decide +kernel
theorem dX6_ownerOf_31 : decode cX6_ownerOf 31 = .ok (.iload_n 1, 1) := by decide +kernel
theorem dX6_ownerOf_32 : decode cX6_ownerOf 32 = .ok (.iload 4, 2) := by decide +kernel
theorem dX6_ownerOf_34 : decode cX6_ownerOf 34 = .ok (.iconst 1, 1) := by decide +kernel
theorem dX6_ownerOf_35 : decode cX6_ownerOf 35 = .ok (.iload 5, 2) := by decide +kernel
theorem dX6_ownerOf_37 : decode cX6_ownerOf 37 = .ok (.ishl, 1) := by decide +kernel
theorem dX6_ownerOf_38 : decode cX6_ownerOf 38 = .ok (.iand, 1) := by decide +kernel
theorem dX6_ownerOf_39 : decode cX6_ownerOf 39 = .ok (.iastore, 1) := by decide +kernel
theorem dX6_ownerOf_40 : decode cX6_ownerOf 40 = .ok (.aload_n 0, 1) := by decide +kernel
theorem dX6_ownerOf_41 : decode cX6_ownerOf 41 = .ok (.iload_n 2, 1) := by decide +kernel
theorem dX6_ownerOf_42 : decode cX6_ownerOf 42 = .ok (.invokevirtual 40, 3) := by decide +kernel
theorem dX6_ownerOf_45 : decode cX6_ownerOf 45 = .ok (.iload_n 3, 1) := by decide +kernel
theorem dX6_ownerOf_46 : decode cX6_ownerOf 46 = .ok (.if_icmp .ne 6, 3) := by decide +kernel
theorem dX6_ownerOf_49 : decode cX6_ownerOf 49 = .ok (.iload 5, 2) := by decide +kernel
theorem dX6_ownerOf_51 : decode cX6_ownerOf 51 = .ok (.ireturn, 1) := by decide +kernel
theorem dX6_ownerOf_52 : decode cX6_ownerOf 52 = .ok (.iinc 5 1, 3) := by decide +kernel
theorem dX6_ownerOf_55 : decode cX6_ownerOf 55 = .ok (.goto (-38), 3) := by decide +kernel
theorem dX6_ownerOf_58 : decode cX6_ownerOf 58 = .ok (.bipush (-2), 2) := by decide +kernel
theorem dX6_ownerOf_60 : decode cX6_ownerOf 60 = .ok (.ireturn, 1) := by decide +kernel
theorem dX7_feed_0 : decode cX7_feed 0 = .ok (.aload_n 0, 1) := by decide +kernel
theorem dX7_feed_1 : decode cX7_feed 1 = .ok (.getfield 12, 3) := by decide +kernel
theorem dX7_feed_4 : decode cX7_feed 4 = .ok (.getfield 66, 3) := by decide +kernel
theorem dX7_feed_7 : decode cX7_feed 7 = .ok (.bipush 20, 2) := by decide +kernel
theorem dX7_feed_9 : decode cX7_feed 9 = .ok (.iadd, 1) := by decide +kernel
theorem dX7_feed_10 : decode cX7_feed 10 = .ok (.sipush 2000, 3) := by decide +kernel
theorem dX7_feed_13 : decode cX7_feed 13 = .ok (.if_icmp .le 5, 3) := by decide +kernel
theorem dX7_feed_16 : decode cX7_feed 16 = .ok (.iconst (-1), 1) := by decide +kernel
theorem dX7_feed_17 : decode cX7_feed 17 = .ok (.ireturn, 1) := by decide +kernel
theorem dX7_feed_18 : decode cX7_feed 18 = .ok (.aload_n 0, 1) := by decide +kernel
theorem dX7_feed_19 : decode cX7_feed 19 = .ok (.getfield 12, 3) := by decide +kernel
theorem dX7_feed_22 : decode cX7_feed 22 = .ok (.iload_n 1, 1) := by decide +kernel
theorem dX7_feed_23 : decode cX7_feed 23 = .ok (.invokevirtual 69, 3) := by decide +kernel
