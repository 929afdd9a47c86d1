theorem dX8_keeps_87 : decode cX8_keeps 87 = .ok (.dup, 1) := by decide +kernel
theorem dX8_keeps_88 : decode cX8_keeps 88 = .ok (.getfield 255, 3) := by decide +kernel
theorem dX8_keeps_91 : decode cX8_keeps 91 = .ok (.iconst 1, 1) := by decide +kernel
theorem dX8_keeps_92 : decode cX8_keeps 92 = .ok (.iadd, 1) := by decide +kernel
theorem dX8_keeps_93 : decode cX8_keeps 93 = .ok (.putfield 255, 3) := by decide +kernel
theorem dX8_keeps_96 : decode cX8_keeps 96 = .ok (.aload_n 0, 1) := by decide +kernel
theorem dX8_keeps_97 : decode cX8_keeps 97 = .ok (.invokevirtual 160, 3) := by decide +kernel
theorem dX8_keeps_100 : decode cX8_keeps 100 = .ok (.return_, 1) := by decide +kernel
theorem dX8_hours_0 : decode cX8_hours 0 = .ok (.iload_n 1, 1) := by decide +kernel
theorem dX8_hours_1 : decode cX8_hours 1 = .ok (.iconst 0, 1) := by decide +kernel
theorem dX8_hours_2 : decode cX8_hours 2 = .ok (.bipush 100, 2) := by decide +kernel
theorem dX8_hours_4 : decode cX8_hours 4 = .ok (.invokestatic 303, 3) := by decide +kernel
theorem dX8_hours_7 : decode cX8_hours 7 = .ok (.ifCond .ne 5, 3) := by decide +kernel
theorem dX8_hours_10 : decode cX8_hours 10 = .ok (.iconst (-1), 1) := by decide +kernel
theorem dX8_hours_11 : decode cX8_hours 11 = .ok (.ireturn, 1) := by decide +kernel
theorem dX8_hours_12 : decode cX8_hours 12 = .ok (.iload_n 1, 1) := by decide +kernel
theorem dX8_hours_13 : decode cX8_hours 13 = .ok (.ifCond .ne 11, 3) := by decide +kernel
theorem dX8_hours_16 : decode cX8_hours 16 = .ok (.aload_n 0, 1) := by decide +kernel
theorem dX8_hours_17 : decode cX8_hours 17 = .ok (.getfield 110, 3) := by decide +kernel
theorem dX8_hours_20 : decode cX8_hours 20 = .ok (.bipush 30, 2) := by decide +kernel
theorem dX8_hours_22 : decode cX8_hours 22 = .ok (.iaload, 1) := by decide +kernel
theorem dX8_hours_23 : decode cX8_hours 23 = .ok (.ireturn, 1) := by decide +kernel
theorem dX8_hours_24 : decode cX8_hours 24 = .ok (.aload_n 0, 1) := by decide +kernel
theorem dX8_hours_25 : decode cX8_hours 25 = .ok (.invokevirtual 397, 3) := by decide +kernel
theorem dX8_hours_28 : decode cX8_hours 28 = .ok (.aload_n 0, 1) := by decide +kernel
theorem dX8_hours_29 : decode cX8_hours 29 = .ok (.iload_n 1, 1) := by decide +kernel
theorem dX8_hours_30 : decode cX8_hours 30 = .ok (.invokevirtual 403, 3) := by decide +kernel
theorem dX8_hours_33 : decode cX8_hours 33 = .ok (.aload_n 0, 1) := by decide +kernel
theorem dX8_hours_34 : decode cX8_hours 34 = .ok (.invokevirtual 406, 3) := by decide +kernel
theorem dX8_hours_37 : decode cX8_hours 37 = .ok (.aload_n 0, 1) := by decide +kernel
theorem dX8_hours_38 : decode cX8_hours 38 = .ok (.getfield 110, 3) := by decide +kernel
theorem dX8_hours_41 : decode cX8_hours 41 = .ok (.bipush 30, 2) := by decide +kernel
theorem dX8_hours_43 : decode cX8_hours 43 = .ok (.iaload, 1) := by decide +kernel
theorem dX8_hours_44 : decode cX8_hours 44 = .ok (.ireturn, 1) := by decide +kernel
theorem dX8_go_0 : decode cX8_go 0 = .ok (.aload_n 0, 1) := by decide +kernel
theorem dX8_go_1 : decode cX8_go 1 = .ok (.iload_n 1, 1) := by decide +kernel
theorem dX8_go_2 : decode cX8_go 2 = .ok (.invokevirtual 394, 3) := by decide +kernel
theorem dX8_go_5 : decode cX8_go 5 = .ok (.ifCond .eq 12, 3) := by decide +kernel
theorem dX8_go_8 : decode cX8_go 8 = .ok (.iload_n 2, 1) := by decide +kernel
theorem dX8_go_9 : decode cX8_go 9 = .ok (.iconst 1, 1) := by decide +kernel
theorem dX8_go_10 : decode cX8_go 10 = .ok (.iconst 4, 1) := by decide +kernel
theorem dX8_go_11 : decode cX8_go 11 = .ok (.invokestatic 303, 3) := by decide +kernel
theorem dX8_go_14 : decode cX8_go 14 = .ok (.ifCond .ne 5, 3) := by decide +kernel
theorem dX8_go_17 : decode cX8_go 17 = .ok (.iconst (-1), 1) := by decide +kernel
theorem dX8_go_18 : decode cX8_go 18 = .ok (.ireturn, 1) := by decide +kernel
theorem dX8_go_19 : decode cX8_go 19 = .ok (.aload_n 0, 1) := by decide +kernel
theorem dX8_go_20 : decode cX8_go 20 = .ok (.invokevirtual 397, 3) := by decide +kernel
theorem dX8_go_23 : decode cX8_go 23 = .ok (.aload_n 0, 1) := by decide +kernel
theorem dX8_go_24 : decode cX8_go 24 = .ok (.iload_n 1, 1) := by decide +kernel
theorem dX8_go_25 : decode cX8_go 25 = .ok (.invokevirtual 347, 3) := by decide +kernel
theorem dX8_go_28 : decode cX8_go 28 = .ok (.ifCond .ne 6, 3) := by decide +kernel
theorem dX8_go_31 : decode cX8_go 31 = .ok (.bipush (-2), 2) := by decide +kernel
theorem dX8_go_33 : decode cX8_go 33 = .ok (.ireturn, 1) := by decide +kernel
theorem dX8_go_34 : decode cX8_go 34 = .ok (.aload_n 0, 1) := by decide +kernel
theorem dX8_go_35 : decode cX8_go 35 = .ok (.iload_n 1, 1) := by decide +kernel
theorem dX8_go_36 : decode cX8_go 36 = .ok (.iload_n 2, 1) := by decide +kernel
theorem dX8_go_37 : decode cX8_go 37 = .ok (.invokevirtual 379, 3) := by decide +kernel
theorem dX8_go_40 : decode cX8_go 40 = .ok (.istore_n 3, 1) := by decide +kernel
theorem dX8_go_41 : decode cX8_go 41 = .ok (.aload_n 0, 1) := by decide +kernel
theorem dX8_go_42 : decode cX8_go 42 = .ok (.invokevirtual 406, 3) := by decide +kernel
theorem dX8_go_45 : decode cX8_go 45 = .ok (.iload_n 3, 1) := by decide +kernel
theorem dX8_go_46 : decode cX8_go 46 = .ok (.ireturn, 1) := by decide +kernel
theorem dX8_pan_0 : decode cX8_pan 0 = .ok (.aload_n 0, 1) := by decide +kernel
theorem dX8_pan_1 : decode cX8_pan 1 = .ok (.iload_n 1, 1) := by decide +kernel
theorem dX8_pan_2 : decode cX8_pan 2 = .ok (.invokevirtual 394, 3) := by decide +kernel
theorem dX8_pan_5 : decode cX8_pan 5 = .ok (.ifCond .eq 25, 3) := by decide +kernel
theorem dX8_pan_8 : decode cX8_pan 8 = .ok (.aload_n 0, 1) := by decide +kernel
theorem dX8_pan_9 : decode cX8_pan 9 = .ok (.getfield 110, 3) := by decide +kernel
theorem dX8_pan_12 : decode cX8_pan 12 = .ok (.bipush 24, 2) := by decide +kernel
theorem dX8_pan_14 : decode cX8_pan 14 = .ok (.iload_n 1, 1) := by decide +kernel
theorem dX8_pan_15 : decode cX8_pan 15 = .ok (.iadd, 1) := by decide +kernel
theorem dX8_pan_16 : decode cX8_pan 16 = .ok (.iaload, 1) := by decide +kernel
theorem dX8_pan_17 : decode cX8_pan 17 = .ok (.iconst 1, 1) := by decide +kernel
theorem dX8_pan_18 : decode cX8_pan 18 = .ok (.if_icmp .ne 7, 3) := by decide +kernel
theorem dX8_pan_21 : decode cX8_pan 21 = .ok (.iconst 1, 1) := by decide +kernel
theorem dX8_pan_22 : decode cX8_pan 22 = .ok (.goto 4, 3) := by decide +kernel
theorem dX8_pan_25 : decode cX8_pan 25 = .ok (.iconst 0, 1) := by decide +kernel
theorem dX8_pan_26 : decode cX8_pan 26 = .ok (.iload_n 2, 1) := by decide +kernel
theorem dX8_pan_27 : decode cX8_pan 27 = .ok (.if_icmp .ne 5, 3) := by decide +kernel
theorem dX8_pan_30 : decode cX8_pan 30 = .ok (.iconst 0, 1) := by decide +kernel
theorem dX8_pan_31 : decode cX8_pan 31 = .ok (.ireturn, 1) := by decide +kernel
theorem dX8_pan_32 : decode cX8_pan 32 = .ok (.aload_n 0, 1) := by decide +kernel
theorem dX8_pan_33 : decode cX8_pan 33 = .ok (.invokevirtual 397, 3) := by decide +kernel
theorem dX8_pan_36 : decode cX8_pan 36 = .ok (.aload_n 0, 1) := by decide +kernel
theorem dX8_pan_37 : decode cX8_pan 37 = .ok (.getfield 113, 3) := by decide +kernel
theorem dX8_pan_40 : decode cX8_pan 40 = .ok (.bipush 24, 2) := by decide +kernel
theorem dX8_pan_42 : decode cX8_pan 42 = .ok (.iload_n 1, 1) := by decide +kernel
theorem dX8_pan_43 : decode cX8_pan 43 = .ok (.iadd, 1) := by decide +kernel
theorem dX8_pan_44 : decode cX8_pan 44 = .ok (.iload_n 2, 1) := by decide +kernel
theorem dX8_pan_45 : decode cX8_pan 45 = .ok (.ifCond .eq 7, 3) := by decide +kernel
theorem dX8_pan_48 : decode cX8_pan 48 = .ok (.iconst 1, 1) := by decide +kernel
theorem dX8_pan_49 : decode cX8_pan 49 = .ok (.goto 4, 3) := by decide +kernel
theorem dX8_pan_52 : decode cX8_pan 52 = .ok (.iconst 0, 1) := by decide +kernel
theorem dX8_pan_53 : decode cX8_pan 53 = .ok (.iastore, 1) := by decide +kernel
theorem dX8_pan_54 : decode cX8_pan 54 = .ok (.aload_n 0, 1) := by decide +kernel
theorem dX8_pan_55 : decode cX8_pan 55 = .ok (.invokevirtual 406, 3) := by decide +kernel
theorem dX8_pan_58 : decode cX8_pan 58 = .ok (.iconst 1, 1) := by decide +kernel
theorem dX8_pan_59 : decode cX8_pan 59 = .ok (.ireturn, 1) := by decide +kernel
theorem dX8_undo_0 : decode cX8_undo 0 = .ok (.aload_n 0, 1) := by decide +kernel
theorem dX8_undo_1 : decode cX8_undo 1 = .ok (.getfield 255, 3) := by decide +kernel
theorem dX8_undo_4 : decode cX8_undo 4 = .ok (.ifCond .ne 5, 3) := by decide +kernel
theorem dX8_undo_7 : decode cX8_undo 7 = .ok (.iconst 0, 1) := by decide +kernel
theorem dX8_undo_8 : decode cX8_undo 8 = .ok (.ireturn, 1) := by decide +kernel
theorem dX8_undo_9 : decode cX8_undo 9 = .ok (.aload_n 0, 1) := by decide +kernel
theorem dX8_undo_10 : decode cX8_undo 10 = .ok (.dup, 1) := by decide +kernel
theorem dX8_undo_11 : decode cX8_undo 11 = .ok (.getfield 255, 3) := by decide +kernel
theorem dX8_undo_14 : decode cX8_undo 14 = .ok (.iconst 1, 1) := by decide +kernel
theorem dX8_undo_15 : decode cX8_undo 15 = .ok (.isub, 1) := by decide +kernel
theorem dX8_undo_16 : decode cX8_undo 16 = .ok (.putfield 255, 3) := by decide +kernel
theorem dX8_undo_19 : decode cX8_undo 19 = .ok (.iconst 0, 1) := by decide +kernel
theorem dX8_undo_20 : decode cX8_undo 20 = .ok (.istore_n 1, 1) := by decide +kernel
theorem dX8_undo_21 : decode cX8_undo 21 = .ok (.iload_n 1, 1) := by decide +kernel
theorem dX8_undo_22 : decode cX8_undo 22 = .ok (.sipush 512, 3) := by decide +kernel
theorem dX8_undo_25 : decode cX8_undo 25 = .ok (.if_icmp .ge 30, 3) := by decide +kernel
theorem dX8_undo_28 : decode cX8_undo 28 = .ok (.aload_n 0, 1) := by decide +kernel
theorem dX8_undo_29 : decode cX8_undo 29 = .ok (.getfield 110, 3) := by decide +kernel
theorem dX8_undo_32 : decode cX8_undo 32 = .ok (.iload_n 1, 1) := by decide +kernel
theorem dX8_undo_33 : decode cX8_undo 33 = .ok (.aload_n 0, 1) := by decide +kernel
theorem dX8_undo_34 : decode cX8_undo 34 = .ok (.getfield 119, 3) := by decide +kernel
theorem dX8_undo_37 : decode cX8_undo 37 = .ok (.sipush 512, 3) := by decide +kernel
theorem dX8_undo_40 : decode cX8_undo 40 = .ok (.aload_n 0, 1) := by decide +kernel
theorem dX8_undo_41 : decode cX8_undo 41 = .ok (.getfield 255, 3) := by decide +kernel
theorem dX8_undo_44 : decode cX8_undo 44 = .ok (.imul, 1) := by decide +kernel
theorem dX8_undo_45 : decode cX8_undo 45 = .ok (.iload_n 1, 1) := by decide +kernel
theorem dX8_undo_46 : decode cX8_undo 46 = .ok (.iadd, 1) := by decide +kernel
theorem dX8_undo_47 : decode cX8_undo 47 = .ok (.iaload, 1) := by decide +kernel
theorem dX8_undo_48 : decode cX8_undo 48 = .ok (.iastore, 1) := by decide +kernel
theorem dX8_undo_49 : decode cX8_undo 49 = .ok (.iinc 1 1, 3) := by decide +kernel
theorem dX8_undo_52 : decode cX8_undo 52 = .ok (.goto (-31), 3) := by decide +kernel
theorem dX8_undo_55 : decode cX8_undo 55 = .ok (.iconst 1, 1) := by decide +kernel
theorem dX8_undo_56 : decode cX8_undo 56 = .ok (.ireturn, 1) := by decide +kernel
theorem dX8_isLong_0 : decode cX8_isLong 0 = .ok (.iload_n 0, 1) := by decide +kernel
theorem dX8_isLong_1 : decode cX8_isLong 1 = .ok (.iconst 0, 1) := by decide +kernel
theorem dX8_isLong_2 : decode cX8_isLong 2 = .ok (.bipush 100, 2) := by decide +kernel
theorem dX8_isLong_4 : decode cX8_isLong 4 = .ok (.invokestatic 303, 3) := by decide +kernel
theorem dX8_isLong_7 : decode cX8_isLong 7 = .ok (.ireturn, 1) := by decide +kernel
theorem dX8_then_0 : decode cX8_then 0 = .ok (.aload_n 0, 1) := by decide +kernel
theorem dX8_then_1 : decode cX8_then 1 = .ok (.iload_n 1, 1) := by decide +kernel
theorem dX8_then_2 : decode cX8_then 2 = .ok (.invokevirtual 394, 3) := by decide +kernel
theorem dX8_then_5 : decode cX8_then 5 = .ok (.ifCond .eq 19, 3) := by decide +kernel
theorem dX8_then_8 : decode cX8_then 8 = .ok (.iload_n 2, 1) := by decide +kernel
theorem dX8_then_9 : decode cX8_then 9 = .ok (.invokestatic 409, 3) := by decide +kernel
theorem dX8_then_12 : decode cX8_then 12 = .ok (.ifCond .eq 12, 3) := by decide +kernel
theorem dX8_then_15 : decode cX8_then 15 = .ok (.iload_n 3, 1) := by decide +kernel
theorem dX8_then_16 : decode cX8_then 16 = .ok (.iconst 0, 1) := by decide +kernel
theorem dX8_then_17 : decode cX8_then 17 = .ok (.iconst 2, 1) := by decide +kernel
theorem dX8_then_18 : decode cX8_then 18 = .ok (.invokestatic 303, 3) := by decide +kernel
theorem dX8_then_21 : decode cX8_then 21 = .ok (.ifCond .ne 5, 3) := by decide +kernel
theorem dX8_then_24 : decode cX8_then 24 = .ok (.iconst (-1), 1) := by decide +kernel
theorem dX8_then_25 : decode cX8_then 25 = .ok (.ireturn, 1) := by decide +kernel
theorem dX8_then_26 : decode cX8_then 26 = .ok (.aload_n 0, 1) := by decide +kernel
theorem dX8_then_27 : decode cX8_then 27 = .ok (.invokevirtual 397, 3) := by decide +kernel
theorem dX8_then_30 : decode cX8_then 30 = .ok (.aload_n 0, 1) := by decide +kernel
theorem dX8_then_31 : decode cX8_then 31 = .ok (.iload_n 2, 1) := by decide +kernel
theorem dX8_then_32 : decode cX8_then 32 = .ok (.invokevirtual 403, 3) := by decide +kernel
theorem dX8_then_35 : decode cX8_then 35 = .ok (.iload_n 3, 1) := by decide +kernel
theorem dX8_then_36 : decode cX8_then 36 = .ok (.iconst 2, 1) := by decide +kernel
theorem dX8_then_37 : decode cX8_then 37 = .ok (.if_icmp .ne 30, 3) := by decide +kernel
theorem dX8_then_40 : decode cX8_then 40 = .ok (.aload_n 0, 1) := by decide +kernel
theorem dX8_then_41 : decode cX8_then 41 = .ok (.getfield 113, 3) := by decide +kernel
theorem dX8_then_44 : decode cX8_then 44 = .ok (.bipush 12, 2) := by decide +kernel
theorem dX8_then_46 : decode cX8_then 46 = .ok (.iload_n 1, 1) := by decide +kernel
theorem dX8_then_47 : decode cX8_then 47 = .ok (.iadd, 1) := by decide +kernel
theorem dX8_then_48 : decode cX8_then 48 = .ok (.iaload, 1) := by decide +kernel
theorem dX8_then_49 : decode cX8_then 49 = .ok (.ifCond .ne 8, 3) := by decide +kernel
theorem dX8_then_52 : decode cX8_then 52 = .ok (.bipush (-2), 2) := by decide +kernel
theorem dX8_then_54 : decode cX8_then 54 = .ok (.goto 12, 3) := by decide +kernel
theorem dX8_then_57 : decode cX8_then 57 = .ok (.aload_n 0, 1) := by decide +kernel
theorem dX8_then_58 : decode cX8_then 58 = .ok (.getfield 113, 3) := by decide +kernel
theorem dX8_then_61 : decode cX8_then 61 = .ok (.bipush 12, 2) := by decide +kernel
theorem dX8_then_63 : decode cX8_then 63 = .ok (.iload_n 1, 1) := by decide +kernel
theorem dX8_then_64 : decode cX8_then 64 = .ok (.iadd, 1) := by decide +kernel
theorem dX8_then_65 : decode cX8_then 65 = .ok (.iaload, 1) := by decide +kernel
theorem dX8_then_66 : decode cX8_then 66 = .ok (.ireturn, 1) := by decide +kernel
theorem dX8_then_67 : decode cX8_then 67 = .ok (.aload_n 0, 1) := by decide +kernel
theorem dX8_then_68 : decode cX8_then 68 = .ok (.iload_n 1, 1) := by decide +kernel
theorem dX8_then_69 : decode cX8_then 69 = .ok (.invokevirtual 385, 3) := by decide +kernel
theorem dX8_then_72 : decode cX8_then 72 = .ok (.ifCond .eq 8, 3) := by decide +kernel
theorem dX8_then_75 : decode cX8_then 75 = .ok (.bipush (-2), 2) := by decide +kernel
theorem dX8_then_77 : decode cX8_then 77 = .ok (.goto 14, 3) := by decide +kernel
theorem dX8_then_80 : decode cX8_then 80 = .ok (.aload_n 0, 1) := by decide +kernel
theorem dX8_then_81 : decode cX8_then 81 = .ok (.getfield 113, 3) := by decide +kernel
theorem dX8_then_84 : decode cX8_then 84 = .ok (.bipush 6, 2) := by decide +kernel
theorem dX8_then_86 : decode cX8_then 86 = .ok (.iload_n 3, 1) := by decide +kernel
theorem dX8_then_87 : decode cX8_then 87 = .ok (.imul, 1) := by decide +kernel
theorem dX8_then_88 : decode cX8_then 88 = .ok (.iload_n 1, 1) := by decide +kernel
theorem dX8_then_89 : decode cX8_then 89 = .ok (.iadd, 1) := by decide +kernel
theorem dX8_then_90 : decode cX8_then 90 = .ok (.iaload, 1) := by decide +kernel
theorem dX8_then_91 : decode cX8_then 91 = .ok (.ireturn, 1) := by decide +kernel
theorem dX8_lostNow_0 : decode cX8_lostNow 0 = .ok (.iconst 0, 1) := by decide +kernel
theorem dX8_lostNow_1 : decode cX8_lostNow 1 = .ok (.istore_n 1, 1) := by decide +kernel
theorem dX8_lostNow_2 : decode cX8_lostNow 2 = .ok (.iconst 0, 1) := by decide +kernel
theorem dX8_lostNow_3 : decode cX8_lostNow 3 = .ok (.istore_n 2, 1) := by decide +kernel
theorem dX8_lostNow_4 : decode cX8_lostNow 4 = .ok (.iload_n 2, 1) := by decide +kernel
theorem dX8_lostNow_5 : decode cX8_lostNow 5 = .ok (.aload_n 0, 1) := by decide +kernel
theorem dX8_lostNow_6 : decode cX8_lostNow 6 = .ok (.getfield 52, 3) := by decide +kernel
theorem dX8_lostNow_9 : decode cX8_lostNow 9 = .ok (.aload_n 0, 1) := by decide +kernel
theorem dX8_lostNow_10 : decode cX8_lostNow 10 = .ok (.getfield 230, 3) := by decide +kernel
theorem dX8_lostNow_13 : decode cX8_lostNow 13 = .ok (.iaload, 1) := by decide +kernel
theorem dX8_lostNow_14 : decode cX8_lostNow 14 = .ok (.if_icmp .ge 23, 3) := by decide +kernel
theorem dX8_lostNow_17 : decode cX8_lostNow 17 = .ok (.aload_n 0, 1) := by decide +kernel
theorem dX8_lostNow_18 : decode cX8_lostNow 18 = .ok (.iload_n 2, 1) := by decide +kernel
theorem dX8_lostNow_19 : decode cX8_lostNow 19 = .ok (.invokevirtual 385, 3) := by decide +kernel
theorem dX8_lostNow_22 : decode cX8_lostNow 22 = .ok (.ifCond .eq 9, 3) := by decide +kernel
theorem dX8_lostNow_25 : decode cX8_lostNow 25 = .ok (.iload_n 1, 1) := by decide +kernel
theorem dX8_lostNow_26 : decode cX8_lostNow 26 = .ok (.iconst 1, 1) := by decide +kernel
theorem dX8_lostNow_27 : decode cX8_lostNow 27 = .ok (.iload_n 2, 1) := by decide +kernel
theorem dX8_lostNow_28 : decode cX8_lostNow 28 = .ok (.ishl, 1) := by decide +kernel
theorem dX8_lostNow_29 : decode cX8_lostNow 29 = .ok (.ior, 1) := by decide +kernel
theorem dX8_lostNow_30 : decode cX8_lostNow 30 = .ok (.istore_n 1, 1) := by decide +kernel
theorem dX8_lostNow_31 : decode cX8_lostNow 31 = .ok (.iinc 2 1, 3) := by decide +kernel
theorem dX8_lostNow_34 : decode cX8_lostNow 34 = .ok (.goto (-30), 3) := by decide +kernel
theorem dX8_lostNow_37 : decode cX8_lostNow 37 = .ok (.iload_n 1, 1) := by decide +kernel
theorem dX8_lostNow_38 : decode cX8_lostNow 38 = .ok (.ireturn, 1) := by decide +kernel
theorem dX8_many_0 : decode cX8_many 0 = .ok (.iload_n 1, 1) := by decide +kernel
theorem dX8_many_1 : decode cX8_many 1 = .ok (.invokestatic 409, 3) := by decide +kernel
theorem dX8_many_4 : decode cX8_many 4 = .ok (.ifCond .ne 5, 3) := by decide +kernel
theorem dX8_many_7 : decode cX8_many 7 = .ok (.iconst (-1), 1) := by decide +kernel
theorem dX8_many_8 : decode cX8_many 8 = .ok (.ireturn, 1) := by decide +kernel
theorem dX8_many_9 : decode cX8_many 9 = .ok (.aload_n 0, 1) := by decide +kernel
theorem dX8_many_10 : decode cX8_many 10 = .ok (.invokevirtual 397, 3) := by decide +kernel
theorem dX8_many_13 : decode cX8_many 13 = .ok (.aload_n 0, 1) := by decide +kernel
theorem dX8_many_14 : decode cX8_many 14 = .ok (.iload_n 1, 1) := by decide +kernel
theorem dX8_many_15 : decode cX8_many 15 = .ok (.invokevirtual 403, 3) := by decide +kernel
theorem dX8_many_18 : decode cX8_many 18 = .ok (.iload_n 2, 1) := by decide +kernel
theorem dX8_many_19 : decode cX8_many 19 = .ok (.ifCond .eq 13, 3) := by decide +kernel
theorem dX8_many_22 : decode cX8_many 22 = .ok (.aload_n 0, 1) := by decide +kernel
theorem dX8_many_23 : decode cX8_many 23 = .ok (.invokevirtual 412, 3) := by decide +kernel
theorem dX8_many_26 : decode cX8_many 26 = .ok (.invokestatic 373, 3) := by decide +kernel
theorem dX8_many_29 : decode cX8_many 29 = .ok (.goto 10, 3) := by decide +kernel
theorem dX8_many_32 : decode cX8_many 32 = .ok (.aload_n 0, 1) := by decide +kernel
theorem dX8_many_33 : decode cX8_many 33 = .ok (.getfield 113, 3) := by decide +kernel
theorem dX8_many_36 : decode cX8_many 36 = .ok (.bipush 31, 2) := by decide +kernel
theorem dX8_many_38 : decode cX8_many 38 = .ok (.iaload, 1) := by decide +kernel
theorem dX8_many_39 : decode cX8_many 39 = .ok (.ireturn, 1) := by decide +kernel
theorem dX8_ranked_0 : decode cX8_ranked 0 = .ok (.aload_n 0, 1) := by decide +kernel
theorem dX8_ranked_1 : decode cX8_ranked 1 = .ok (.iload_n 1, 1) := by decide +kernel
theorem dX8_ranked_2 : decode cX8_ranked 2 = .ok (.invokevirtual 394, 3) := by decide +kernel
theorem dX8_ranked_5 : decode cX8_ranked 5 = .ok (.ifCond .ne 5, 3) := by decide +kernel
theorem dX8_ranked_8 : decode cX8_ranked 8 = .ok (.iconst (-1), 1) := by decide +kernel
theorem dX8_ranked_9 : decode cX8_ranked 9 = .ok (.ireturn, 1) := by decide +kernel
theorem dX8_ranked_10 : decode cX8_ranked 10 = .ok (.aload_n 0, 1) := by decide +kernel
theorem dX8_ranked_11 : decode cX8_ranked 11 = .ok (.invokevirtual 397, 3) := by decide +kernel
theorem dX8_ranked_14 : decode cX8_ranked 14 = .ok (.aload_n 0, 1) := by decide +kernel
theorem dX8_ranked_15 : decode cX8_ranked 15 = .ok (.iload_n 1, 1) := by decide +kernel
theorem dX8_ranked_16 : decode cX8_ranked 16 = .ok (.invokevirtual 416, 3) := by decide +kernel
theorem dX8_ranked_19 : decode cX8_ranked 19 = .ok (.ireturn, 1) := by decide +kernel
theorem dX8_farAt_0 : decode cX8_farAt 0 = .ok (.aload_n 0, 1) := by decide +kernel
theorem dX8_farAt_1 : decode cX8_farAt 1 = .ok (.iload_n 1, 1) := by decide +kernel
theorem dX8_farAt_2 : decode cX8_farAt 2 = .ok (.iload_n 2, 1) := by decide +kernel
theorem dX8_farAt_3 : decode cX8_farAt 3 = .ok (.invokevirtual 360, 3) := by decide +kernel
theorem dX8_farAt_6 : decode cX8_farAt 6 = .ok (.ifCond .eq 17, 3) := by decide +kernel
theorem dX8_farAt_9 : decode cX8_farAt 9 = .ok (.aload_n 0, 1) := by decide +kernel
theorem dX8_farAt_10 : decode cX8_farAt 10 = .ok (.getfield 122, 3) := by decide +kernel
theorem dX8_farAt_13 : decode cX8_farAt 13 = .ok (.bipush 8, 2) := by decide +kernel
theorem dX8_farAt_15 : decode cX8_farAt 15 = .ok (.iload_n 2, 1) := by decide +kernel
theorem dX8_farAt_16 : decode cX8_farAt 16 = .ok (.imul, 1) := by decide +kernel
theorem dX8_farAt_17 : decode cX8_farAt 17 = .ok (.iload_n 1, 1) := by decide +kernel
theorem dX8_farAt_18 : decode cX8_farAt 18 = .ok (.iadd, 1) := by decide +kernel
theorem dX8_farAt_19 : decode cX8_farAt 19 = .ok (.iaload, 1) := by decide +kernel
theorem dX8_farAt_20 : decode cX8_farAt 20 = .ok (.goto 4, 3) := by decide +kernel
theorem dX8_farAt_23 : decode cX8_farAt 23 = .ok (.iconst (-1), 1) := by decide +kernel
theorem dX8_farAt_24 : decode cX8_farAt 24 = .ok (.ireturn, 1) := by decide +kernel
theorem dX8_isNextTo_0 : decode cX8_isNextTo 0 = .ok (.iconst 1, 1) := by decide +kernel
theorem dX8_isNextTo_1 : decode cX8_isNextTo 1 = .ok (.istore 4, 2) := by decide +kernel
theorem dX8_isNextTo_3 : decode cX8_isNextTo 3 = .ok (.iload 4, 2) := by decide +kernel
theorem dX8_isNextTo_5 : decode cX8_isNextTo 5 = .ok (.iconst 4, 1) := by decide +kernel
theorem dX8_isNextTo_6 : decode cX8_isNextTo 6 = .ok (.if_icmp .gt 33, 3) := by decide +kernel
theorem dX8_isNextTo_9 : decode cX8_isNextTo 9 = .ok (.aload_n 0, 1) := by decide +kernel
theorem dX8_isNextTo_10 : decode cX8_isNextTo 10 = .ok (.iload_n 1, 1) := by decide +kernel
theorem dX8_isNextTo_11 : decode cX8_isNextTo 11 = .ok (.iload 4, 2) := by decide +kernel
theorem dX8_isNextTo_13 : decode cX8_isNextTo 13 = .ok (.invokestatic 354, 3) := by decide +kernel
theorem dX8_isNextTo_16 : decode cX8_isNextTo 16 = .ok (.iadd, 1) := by decide +kernel
theorem dX8_isNextTo_17 : decode cX8_isNextTo 17 = .ok (.iload_n 2, 1) := by decide +kernel
theorem dX8_isNextTo_18 : decode cX8_isNextTo 18 = .ok (.iload 4, 2) := by decide +kernel
theorem dX8_isNextTo_20 : decode cX8_isNextTo 20 = .ok (.invokestatic 357, 3) := by decide +kernel
theorem dX8_isNextTo_23 : decode cX8_isNextTo 23 = .ok (.iadd, 1) := by decide +kernel
theorem dX8_isNextTo_24 : decode cX8_isNextTo 24 = .ok (.invokevirtual 419, 3) := by decide +kernel
theorem dX8_isNextTo_27 : decode cX8_isNextTo 27 = .ok (.iload_n 3, 1) := by decide +kernel
theorem dX8_isNextTo_28 : decode cX8_isNextTo 28 = .ok (.if_icmp .ne 5, 3) := by decide +kernel
theorem dX8_isNextTo_31 : decode cX8_isNextTo 31 = .ok (.iconst 1, 1) := by decide +kernel
theorem dX8_isNextTo_32 : decode cX8_isNextTo 32 = .ok (.ireturn, 1) := by decide +kernel
theorem dX8_isNextTo_33 : decode cX8_isNextTo 33 = .ok (.iinc 4 1, 3) := by decide +kernel
theorem dX8_isNextTo_36 : decode cX8_isNextTo 36 = .ok (.goto (-33), 3) := by decide +kernel
theorem dX8_isNextTo_39 : decode cX8_isNextTo 39 = .ok (.iconst 0, 1) := by decide +kernel
theorem dX8_isNextTo_40 : decode cX8_isNextTo 40 = .ok (.ireturn, 1) := by decide +kernel
theorem dX8_fillsFar_0 : decode cX8_fillsFar 0 = .ok (.iconst 0, 1) := by decide +kernel
theorem dX8_fillsFar_1 : decode cX8_fillsFar 1 = .ok (.istore_n 1, 1) := by decide +kernel
theorem dX8_fillsFar_2 : decode cX8_fillsFar 2 = .ok (.iload_n 1, 1) := by decide +kernel
theorem dX8_fillsFar_3 : decode cX8_fillsFar 3 = .ok (.bipush 40, 2) := by decide +kernel
theorem dX8_fillsFar_5 : decode cX8_fillsFar 5 = .ok (.if_icmp .ge 51, 3) := by decide +kernel
theorem dX8_fillsFar_8 : decode cX8_fillsFar 8 = .ok (.aload_n 0, 1) := by decide +kernel
theorem dX8_fillsFar_9 : decode cX8_fillsFar 9 = .ok (.getfield 122, 3) := by decide +kernel
theorem dX8_fillsFar_12 : decode cX8_fillsFar 12 = .ok (.iload_n 1, 1) := by decide +kernel
theorem dX8_fillsFar_13 : decode cX8_fillsFar 13 = .ok (.aload_n 0, 1) := by decide +kernel
theorem dX8_fillsFar_14 : decode cX8_fillsFar 14 = .ok (.iload_n 1, 1) := by decide +kernel
theorem dX8_fillsFar_15 : decode cX8_fillsFar 15 = .ok (.bipush 8, 2) := by decide +kernel
theorem dX8_fillsFar_17 : decode cX8_fillsFar 17 = .ok (.irem, 1) := by decide +kernel
theorem dX8_fillsFar_18 : decode cX8_fillsFar 18 = .ok (.iload_n 1, 1) := by decide +kernel
theorem dX8_fillsFar_19 : decode cX8_fillsFar 19 = .ok (.bipush 8, 2) := by decide +kernel
theorem dX8_fillsFar_21 : decode cX8_fillsFar 21 = .ok (.idiv, 1) := by decide +kernel
theorem dX8_fillsFar_22 : decode cX8_fillsFar 22 = .ok (.invokevirtual 360, 3) := by decide +kernel
theorem dX8_fillsFar_25 : decode cX8_fillsFar 25 = .ok (.ifCond .eq 23, 3) := by decide +kernel
theorem dX8_fillsFar_28 : decode cX8_fillsFar 28 = .ok (.aload_n 0, 1) := by decide +kernel
theorem dX8_fillsFar_29 : decode cX8_fillsFar 29 = .ok (.iload_n 1, 1) := by decide +kernel
theorem dX8_fillsFar_30 : decode cX8_fillsFar 30 = .ok (.bipush 8, 2) := by decide +kernel
theorem dX8_fillsFar_32 : decode cX8_fillsFar 32 = .ok (.irem, 1) := by decide +kernel
theorem dX8_fillsFar_33 : decode cX8_fillsFar 33 = .ok (.iload_n 1, 1) := by decide +kernel
theorem dX8_fillsFar_34 : decode cX8_fillsFar 34 = .ok (.bipush 8, 2) := by decide +kernel
theorem dX8_fillsFar_36 : decode cX8_fillsFar 36 = .ok (.idiv, 1) := by decide +kernel
theorem dX8_fillsFar_37 : decode cX8_fillsFar 37 = .ok (.invokevirtual 319, 3) := by decide +kernel
theorem dX8_fillsFar_40 : decode cX8_fillsFar 40 = .ok (.iconst 2, 1) := by decide +kernel
theorem dX8_fillsFar_41 : decode cX8_fillsFar 41 = .ok (.if_icmp .ne 7, 3) := by decide +kernel
theorem dX8_fillsFar_44 : decode cX8_fillsFar 44 = .ok (.iconst 0, 1) := by decide +kernel
theorem dX8_fillsFar_45 : decode cX8_fillsFar 45 = .ok (.goto 4, 3) := by decide +kernel
theorem dX8_fillsFar_48 : decode cX8_fillsFar 48 = .ok (.iconst (-1), 1) := by decide +kernel
theorem dX8_fillsFar_49 : decode cX8_fillsFar 49 = .ok (.iastore, 1) := by decide +kernel
theorem dX8_fillsFar_50 : decode cX8_fillsFar 50 = .ok (.iinc 1 1, 3) := by decide +kernel
theorem dX8_fillsFar_53 : decode cX8_fillsFar 53 = .ok (.goto (-51), 3) := by decide +kernel
theorem dX8_fillsFar_56 : decode cX8_fillsFar 56 = .ok (.iconst 1, 1) := by decide +kernel
theorem dX8_fillsFar_57 : decode cX8_fillsFar 57 = .ok (.istore_n 1, 1) := by decide +kernel
theorem dX8_fillsFar_58 : decode cX8_fillsFar 58 = .ok (.iload_n 1, 1) := by decide +kernel
theorem dX8_fillsFar_59 : decode cX8_fillsFar 59 = .ok (.bipush 40, 2) := by decide +kernel
theorem dX8_fillsFar_61 : decode cX8_fillsFar 61 = .ok (.if_icmp .gt 87, 3) := by decide +kernel
theorem dX8_fillsFar_64 : decode cX8_fillsFar 64 = .ok (.iconst 0, 1) := by decide +kernel
theorem dX8_fillsFar_65 : decode cX8_fillsFar 65 = .ok (.istore_n 2, 1) := by decide +kernel
theorem dX8_fillsFar_66 : decode cX8_fillsFar 66 = .ok (.iload_n 2, 1) := by decide +kernel
theorem dX8_fillsFar_67 : decode cX8_fillsFar 67 = .ok (.bipush 40, 2) := by decide +kernel
theorem dX8_fillsFar_69 : decode cX8_fillsFar 69 = .ok (.if_icmp .ge 73, 3) := by decide +kernel
theorem dX8_fillsFar_72 : decode cX8_fillsFar 72 = .ok (.aload_n 0, 1) := by decide +kernel
theorem dX8_fillsFar_73 : decode cX8_fillsFar 73 = .ok (.getfield 122, 3) := by decide +kernel
theorem dX8_fillsFar_76 : decode cX8_fillsFar 76 = .ok (.iload_n 2, 1) := by decide +kernel
theorem dX8_fillsFar_77 : decode cX8_fillsFar 77 = .ok (.iaload, 1) := by decide +kernel
theorem dX8_fillsFar_78 : decode cX8_fillsFar 78 = .ok (.ifCond .ge 58, 3) := by decide +kernel
theorem dX8_fillsFar_81 : decode cX8_fillsFar 81 = .ok (.aload_n 0, 1) := by decide +kernel
theorem dX8_fillsFar_82 : decode cX8_fillsFar 82 = .ok (.iload_n 2, 1) := by decide +kernel
theorem dX8_fillsFar_83 : decode cX8_fillsFar 83 = .ok (.bipush 8, 2) := by decide +kernel
theorem dX8_fillsFar_85 : decode cX8_fillsFar 85 = .ok (.irem, 1) := by decide +kernel
theorem dX8_fillsFar_86 : decode cX8_fillsFar 86 = .ok (.iload_n 2, 1) := by decide +kernel
theorem dX8_fillsFar_87 : decode cX8_fillsFar 87 = .ok (.bipush 8, 2) := by decide +kernel
theorem dX8_fillsFar_89 : decode cX8_fillsFar 89 = .ok (.idiv, 1) := by decide +kernel
theorem dX8_fillsFar_90 : decode cX8_fillsFar 90 = .ok (.invokevirtual 360, 3) := by decide +kernel
theorem dX8_fillsFar_93 : decode cX8_fillsFar 93 = .ok (.ifCond .eq 43, 3) := by decide +kernel
theorem dX8_fillsFar_96 : decode cX8_fillsFar 96 = .ok (.aload_n 0, 1) := by decide +kernel
theorem dX8_fillsFar_97 : decode cX8_fillsFar 97 = .ok (.iload_n 2, 1) := by decide +kernel
theorem dX8_fillsFar_98 : decode cX8_fillsFar 98 = .ok (.bipush 8, 2) := by decide +kernel
theorem dX8_fillsFar_100 : decode cX8_fillsFar 100 = .ok (.irem, 1) := by decide +kernel
theorem dX8_fillsFar_101 : decode cX8_fillsFar 101 = .ok (.iload_n 2, 1) := by decide +kernel
theorem dX8_fillsFar_102 : decode cX8_fillsFar 102 = .ok (.bipush 8, 2) := by decide +kernel
theorem dX8_fillsFar_104 : decode cX8_fillsFar 104 = .ok (.idiv, 1) := by decide +kernel
theorem dX8_fillsFar_105 : decode cX8_fillsFar 105 = .ok (.invokevirtual 319, 3) := by decide +kernel
theorem dX8_fillsFar_108 : decode cX8_fillsFar 108 = .ok (.ifCond .ne 28, 3) := by decide +kernel
theorem dX8_fillsFar_111 : decode cX8_fillsFar 111 = .ok (.aload_n 0, 1) := by decide +kernel
theorem dX8_fillsFar_112 : decode cX8_fillsFar 112 = .ok (.iload_n 2, 1) := by decide +kernel
theorem dX8_fillsFar_113 : decode cX8_fillsFar 113 = .ok (.bipush 8, 2) := by decide +kernel
theorem dX8_fillsFar_115 : decode cX8_fillsFar 115 = .ok (.irem, 1) := by decide +kernel
theorem dX8_fillsFar_116 : decode cX8_fillsFar 116 = .ok (.iload_n 2, 1) := by decide +kernel
theorem dX8_fillsFar_117 : decode cX8_fillsFar 117 = .ok (.bipush 8, 2) := by decide +kernel
theorem dX8_fillsFar_119 : decode cX8_fillsFar 119 = .ok (.idiv, 1) := by decide +kernel
theorem dX8_fillsFar_120 : decode cX8_fillsFar 120 = .ok (.iload_n 1, 1) := by decide +kernel
theorem dX8_fillsFar_121 : decode cX8_fillsFar 121 = .ok (.iconst 1, 1) := by decide +kernel
theorem dX8_fillsFar_122 : decode cX8_fillsFar 122 = .ok (.isub, 1) := by decide +kernel
theorem dX8_fillsFar_123 : decode cX8_fillsFar 123 = .ok (.invokevirtual 422, 3) := by decide +kernel
theorem dX8_fillsFar_126 : decode cX8_fillsFar 126 = .ok (.ifCond .eq 10, 3) := by decide +kernel
theorem dX8_fillsFar_129 : decode cX8_fillsFar 129 = .ok (.aload_n 0, 1) := by decide +kernel
theorem dX8_fillsFar_130 : decode cX8_fillsFar 130 = .ok (.getfield 122, 3) := by decide +kernel
theorem dX8_fillsFar_133 : decode cX8_fillsFar 133 = .ok (.iload_n 2, 1) := by decide +kernel
theorem dX8_fillsFar_134 : decode cX8_fillsFar 134 = .ok (.iload_n 1, 1) := by decide +kernel
theorem dX8_fillsFar_135 : decode cX8_fillsFar 135 = .ok (.iastore, 1) := by decide +kernel
theorem dX8_fillsFar_136 : decode cX8_fillsFar 136 = .ok (.iinc 2 1, 3) := by decide +kernel
theorem dX8_fillsFar_139 : decode cX8_fillsFar 139 = .ok (.goto (-73), 3) := by decide +kernel
theorem dX8_fillsFar_142 : decode cX8_fillsFar 142 = .ok (.iinc 1 1, 3) := by decide +kernel
theorem dX8_fillsFar_145 : decode cX8_fillsFar 145 = .ok (.goto (-87), 3) := by decide +kernel
theorem dX8_fillsFar_148 : decode cX8_fillsFar 148 = .ok (.return_, 1) := by decide +kernel
theorem dX8_soonestOf_0 : decode cX8_soonestOf 0 = .ok (.aload_n 0, 1) := by decide +kernel
theorem dX8_soonestOf_1 : decode cX8_soonestOf 1 = .ok (.invokevirtual 397, 3) := by decide +kernel
theorem dX8_soonestOf_4 : decode cX8_soonestOf 4 = .ok (.aload_n 0, 1) := by decide +kernel
theorem dX8_soonestOf_5 : decode cX8_soonestOf 5 = .ok (.iload_n 1, 1) := by decide +kernel
theorem dX8_soonestOf_6 : decode cX8_soonestOf 6 = .ok (.invokevirtual 385, 3) := by decide +kernel
theorem dX8_soonestOf_9 : decode cX8_soonestOf 9 = .ok (.ifCond .eq 6, 3) := by decide +kernel
theorem dX8_soonestOf_12 : decode cX8_soonestOf 12 = .ok (.bipush (-2), 2) := by decide +kernel
theorem dX8_soonestOf_14 : decode cX8_soonestOf 14 = .ok (.ireturn, 1) := by decide +kernel
theorem dX8_soonestOf_15 : decode cX8_soonestOf 15 = .ok (.aload_n 0, 1) := by decide +kernel
theorem dX8_soonestOf_16 : decode cX8_soonestOf 16 = .ok (.invokevirtual 425, 3) := by decide +kernel
theorem dX8_soonestOf_19 : decode cX8_soonestOf 19 = .ok (.aload_n 0, 1) := by decide +kernel
theorem dX8_soonestOf_20 : decode cX8_soonestOf 20 = .ok (.aload_n 0, 1) := by decide +kernel
theorem dX8_soonestOf_21 : decode cX8_soonestOf 21 = .ok (.getfield 113, 3) := by decide +kernel
theorem dX8_soonestOf_24 : decode cX8_soonestOf 24 = .ok (.iload_n 1, 1) := by decide +kernel
theorem dX8_soonestOf_25 : decode cX8_soonestOf 25 = .ok (.iaload, 1) := by decide +kernel
theorem dX8_soonestOf_26 : decode cX8_soonestOf 26 = .ok (.aload_n 0, 1) := by decide +kernel
theorem dX8_soonestOf_27 : decode cX8_soonestOf 27 = .ok (.getfield 113, 3) := by decide +kernel
theorem dX8_soonestOf_30 : decode cX8_soonestOf 30 = .ok (.bipush 6, 2) := by decide +kernel
theorem dX8_soonestOf_32 : decode cX8_soonestOf 32 = .ok (.iload_n 1, 1) := by decide +kernel
theorem dX8_soonestOf_33 : decode cX8_soonestOf 33 = .ok (.iadd, 1) := by decide +kernel
theorem dX8_soonestOf_34 : decode cX8_soonestOf 34 = .ok (.iaload, 1) := by decide +kernel
theorem dX8_soonestOf_35 : decode cX8_soonestOf 35 = .ok (.invokevirtual 419, 3) := by decide +kernel
theorem dX8_soonestOf_38 : decode cX8_soonestOf 38 = .ok (.istore_n 2, 1) := by decide +kernel
theorem dX8_soonestOf_39 : decode cX8_soonestOf 39 = .ok (.iload_n 2, 1) := by decide +kernel
theorem dX8_soonestOf_40 : decode cX8_soonestOf 40 = .ok (.ifCond .ge 8, 3) := by decide +kernel
theorem dX8_soonestOf_43 : decode cX8_soonestOf 43 = .ok (.bipush (-2), 2) := by decide +kernel
theorem dX8_soonestOf_45 : decode cX8_soonestOf 45 = .ok (.goto 4, 3) := by decide +kernel
theorem dX8_soonestOf_48 : decode cX8_soonestOf 48 = .ok (.iload_n 2, 1) := by decide +kernel
theorem dX8_soonestOf_49 : decode cX8_soonestOf 49 = .ok (.ireturn, 1) := by decide +kernel
theorem dX8_soonest_0 : decode cX8_soonest 0 = .ok (.aload_n 0, 1) := by decide +kernel
theorem dX8_soonest_1 : decode cX8_soonest 1 = .ok (.iload_n 1, 1) := by decide +kernel
theorem dX8_soonest_2 : decode cX8_soonest 2 = .ok (.invokevirtual 394, 3) := by decide +kernel
theorem dX8_soonest_5 : decode cX8_soonest 5 = .ok (.ifCond .eq 11, 3) := by decide +kernel
theorem dX8_soonest_8 : decode cX8_soonest 8 = .ok (.aload_n 0, 1) := by decide +kernel
theorem dX8_soonest_9 : decode cX8_soonest 9 = .ok (.iload_n 1, 1) := by decide +kernel
theorem dX8_soonest_10 : decode cX8_soonest 10 = .ok (.invokevirtual 428, 3) := by decide +kernel
theorem dX8_soonest_13 : decode cX8_soonest 13 = .ok (.goto 4, 3) := by decide +kernel
theorem dX8_soonest_16 : decode cX8_soonest 16 = .ok (.iconst (-1), 1) := by decide +kernel
theorem dX8_soonest_17 : decode cX8_soonest 17 = .ok (.ireturn, 1) := by decide +kernel
theorem dX8_route_0 : decode cX8_route 0 = .ok (.aload_n 0, 1) := by decide +kernel
theorem dX8_route_1 : decode cX8_route 1 = .ok (.iload_n 1, 1) := by decide +kernel
theorem dX8_route_2 : decode cX8_route 2 = .ok (.invokevirtual 394, 3) := by decide +kernel
theorem dX8_route_5 : decode cX8_route 5 = .ok (.ifCond .eq 7, 3) := by decide +kernel
theorem dX8_route_8 : decode cX8_route 8 = .ok (.iload_n 2, 1) := by decide +kernel
theorem dX8_route_9 : decode cX8_route 9 = .ok (.ifCond .ge 5, 3) := by decide +kernel
theorem dX8_route_12 : decode cX8_route 12 = .ok (.iconst (-1), 1) := by decide +kernel
theorem dX8_route_13 : decode cX8_route 13 = .ok (.ireturn, 1) := by decide +kernel
theorem dX8_route_14 : decode cX8_route 14 = .ok (.aload_n 0, 1) := by decide +kernel
theorem dX8_route_15 : decode cX8_route 15 = .ok (.iload_n 1, 1) := by decide +kernel
theorem dX8_route_16 : decode cX8_route 16 = .ok (.invokevirtual 428, 3) := by decide +kernel
theorem dX8_route_19 : decode cX8_route 19 = .ok (.istore_n 3, 1) := by decide +kernel
theorem dX8_route_20 : decode cX8_route 20 = .ok (.iload_n 3, 1) := by decide +kernel
theorem dX8_route_21 : decode cX8_route 21 = .ok (.iconst 1, 1) := by decide +kernel
theorem dX8_route_22 : decode cX8_route 22 = .ok (.if_icmp .ge 6, 3) := by decide +kernel
theorem dX8_route_25 : decode cX8_route 25 = .ok (.bipush (-2), 2) := by decide +kernel
theorem dX8_route_27 : decode cX8_route 27 = .ok (.ireturn, 1) := by decide +kernel
theorem dX8_route_28 : decode cX8_route 28 = .ok (.iload_n 2, 1) := by decide +kernel
theorem dX8_route_29 : decode cX8_route 29 = .ok (.iload_n 3, 1) := by decide +kernel
theorem dX8_route_30 : decode cX8_route 30 = .ok (.if_icmp .lt 5, 3) := by decide +kernel
theorem dX8_route_33 : decode cX8_route 33 = .ok (.iconst (-1), 1) := by decide +kernel
theorem dX8_route_34 : decode cX8_route 34 = .ok (.ireturn, 1) := by decide +kernel
theorem dX8_route_35 : decode cX8_route 35 = .ok (.aload_n 0, 1) := by decide +kernel
theorem dX8_route_36 : decode cX8_route 36 = .ok (.getfield 113, 3) := by decide +kernel
theorem dX8_route_39 : decode cX8_route 39 = .ok (.iload_n 1, 1) := by decide +kernel
theorem dX8_route_40 : decode cX8_route 40 = .ok (.iaload, 1) := by decide +kernel
theorem dX8_route_41 : decode cX8_route 41 = .ok (.istore 4, 2) := by decide +kernel
theorem dX8_route_43 : decode cX8_route 43 = .ok (.aload_n 0, 1) := by decide +kernel
theorem dX8_route_44 : decode cX8_route 44 = .ok (.getfield 113, 3) := by decide +kernel
theorem dX8_route_47 : decode cX8_route 47 = .ok (.bipush 6, 2) := by decide +kernel
theorem dX8_route_49 : decode cX8_route 49 = .ok (.iload_n 1, 1) := by decide +kernel
theorem dX8_route_50 : decode cX8_route 50 = .ok (.iadd, 1) := by decide +kernel
theorem dX8_route_51 : decode cX8_route 51 = .ok (.iaload, 1) := by decide +kernel
theorem dX8_route_52 : decode cX8_route 52 = .ok (.istore 5, 2) := by decide +kernel
theorem dX8_route_54 : decode cX8_route 54 = .ok (.iconst 0, 1) := by decide +kernel
theorem dX8_route_55 : decode cX8_route 55 = .ok (.istore 6, 2) := by decide +kernel
theorem dX8_route_57 : decode cX8_route 57 = .ok (.iconst 0, 1) := by decide +kernel
theorem dX8_route_58 : decode cX8_route 58 = .ok (.istore 7, 2) := by decide +kernel
theorem dX8_route_60 : decode cX8_route 60 = .ok (.iload 7, 2) := by decide +kernel
theorem dX8_route_62 : decode cX8_route 62 = .ok (.iload_n 2, 1) := by decide +kernel
theorem dX8_route_63 : decode cX8_route 63 = .ok (.if_icmp .gt 67, 3) := by decide +kernel
theorem dX8_route_66 : decode cX8_route 66 = .ok (.iconst 1, 1) := by decide +kernel
theorem dX8_route_67 : decode cX8_route 67 = .ok (.istore 6, 2) := by decide +kernel
theorem dX8_route_69 : decode cX8_route 69 = .ok (.aload_n 0, 1) := by decide +kernel
theorem dX8_route_70 : decode cX8_route 70 = .ok (.iload 4, 2) := by decide +kernel
theorem dX8_route_72 : decode cX8_route 72 = .ok (.iload 6, 2) := by decide +kernel
theorem dX8_route_74 : decode cX8_route 74 = .ok (.invokestatic 354, 3) := by decide +kernel
theorem dX8_route_77 : decode cX8_route 77 = .ok (.iadd, 1) := by decide +kernel
theorem dX8_route_78 : decode cX8_route 78 = .ok (.iload 5, 2) := by decide +kernel
theorem dX8_route_80 : decode cX8_route 80 = .ok (.iload 6, 2) := by decide +kernel
theorem dX8_route_82 : decode cX8_route 82 = .ok (.invokestatic 357, 3) := by decide +kernel
theorem dX8_route_85 : decode cX8_route 85 = .ok (.iadd, 1) := by decide +kernel
theorem dX8_route_86 : decode cX8_route 86 = .ok (.invokevirtual 419, 3) := by decide +kernel
theorem dX8_route_89 : decode cX8_route 89 = .ok (.iload_n 3, 1) := by decide +kernel
theorem dX8_route_90 : decode cX8_route 90 = .ok (.iload 7, 2) := by decide +kernel
theorem dX8_route_92 : decode cX8_route 92 = .ok (.isub, 1) := by decide +kernel
theorem dX8_route_93 : decode cX8_route 93 = .ok (.iconst 1, 1) := by decide +kernel
theorem dX8_route_94 : decode cX8_route 94 = .ok (.isub, 1) := by decide +kernel
theorem dX8_route_95 : decode cX8_route 95 = .ok (.if_icmp .eq 9, 3) := by decide +kernel
theorem dX8_route_98 : decode cX8_route 98 = .ok (.iinc 6 1, 3) := by decide +kernel
theorem dX8_route_101 : decode cX8_route 101 = .ok (.goto (-32), 3) := by decide +kernel
theorem dX8_route_104 : decode cX8_route 104 = .ok (.iload 4, 2) := by decide +kernel
theorem dX8_route_106 : decode cX8_route 106 = .ok (.iload 6, 2) := by decide +kernel
theorem dX8_route_108 : decode cX8_route 108 = .ok (.invokestatic 354, 3) := by decide +kernel
theorem dX8_route_111 : decode cX8_route 111 = .ok (.iadd, 1) := by decide +kernel
theorem dX8_route_112 : decode cX8_route 112 = .ok (.istore 4, 2) := by decide +kernel
theorem dX8_route_114 : decode cX8_route 114 = .ok (.iload 5, 2) := by decide +kernel
theorem dX8_route_116 : decode cX8_route 116 = .ok (.iload 6, 2) := by decide +kernel
theorem dX8_route_118 : decode cX8_route 118 = .ok (.invokestatic 357, 3) := by decide +kernel
theorem dX8_route_121 : decode cX8_route 121 = .ok (.iadd, 1) := by decide +kernel
theorem dX8_route_122 : decode cX8_route 122 = .ok (.istore 5, 2) := by decide +kernel
theorem dX8_route_124 : decode cX8_route 124 = .ok (.iinc 7 1, 3) := by decide +kernel
theorem dX8_route_127 : decode cX8_route 127 = .ok (.goto (-67), 3) := by decide +kernel
theorem dX8_route_130 : decode cX8_route 130 = .ok (.iload 6, 2) := by decide +kernel
theorem dX8_route_132 : decode cX8_route 132 = .ok (.ireturn, 1) := by decide +kernel
theorem dX8_isSmeltBy_0 : decode cX8_isSmeltBy 0 = .ok (.iload_n 2, 1) := by decide +kernel
theorem dX8_isSmeltBy_1 : decode cX8_isSmeltBy 1 = .ok (.bipush 8, 2) := by decide +kernel
theorem dX8_isSmeltBy_3 : decode cX8_isSmeltBy 3 = .ok (.irem, 1) := by decide +kernel
theorem dX8_isSmeltBy_4 : decode cX8_isSmeltBy 4 = .ok (.istore_n 3, 1) := by decide +kernel
theorem dX8_isSmeltBy_5 : decode cX8_isSmeltBy 5 = .ok (.iload_n 2, 1) := by decide +kernel
theorem dX8_isSmeltBy_6 : decode cX8_isSmeltBy 6 = .ok (.bipush 8, 2) := by decide +kernel
theorem dX8_isSmeltBy_8 : decode cX8_isSmeltBy 8 = .ok (.idiv, 1) := by decide +kernel
theorem dX8_isSmeltBy_9 : decode cX8_isSmeltBy 9 = .ok (.istore 4, 2) := by decide +kernel
theorem dX8_isSmeltBy_11 : decode cX8_isSmeltBy 11 = .ok (.aload_n 0, 1) := by decide +kernel
theorem dX8_isSmeltBy_12 : decode cX8_isSmeltBy 12 = .ok (.aload_n 0, 1) := by decide +kernel
theorem dX8_isSmeltBy_13 : decode cX8_isSmeltBy 13 = .ok (.getfield 113, 3) := by decide +kernel
theorem dX8_isSmeltBy_16 : decode cX8_isSmeltBy 16 = .ok (.bipush 30, 2) := by decide +kernel
theorem dX8_isSmeltBy_18 : decode cX8_isSmeltBy 18 = .ok (.iaload, 1) := by decide +kernel
theorem dX8_isSmeltBy_19 : decode cX8_isSmeltBy 19 = .ok (.invokevirtual 344, 3) := by decide +kernel
theorem dX8_isSmeltBy_22 : decode cX8_isSmeltBy 22 = .ok (.istore 5, 2) := by decide +kernel
theorem dX8_isSmeltBy_24 : decode cX8_isSmeltBy 24 = .ok (.iconst 0, 1) := by decide +kernel
theorem dX8_isSmeltBy_25 : decode cX8_isSmeltBy 25 = .ok (.istore 6, 2) := by decide +kernel
theorem dX8_isSmeltBy_27 : decode cX8_isSmeltBy 27 = .ok (.iload 6, 2) := by decide +kernel
theorem dX8_isSmeltBy_29 : decode cX8_isSmeltBy 29 = .ok (.aload_n 0, 1) := by decide +kernel
theorem dX8_isSmeltBy_30 : decode cX8_isSmeltBy 30 = .ok (.getfield 61, 3) := by decide +kernel
theorem dX8_isSmeltBy_33 : decode cX8_isSmeltBy 33 = .ok (.bipush 6, 2) := by decide +kernel
theorem dX8_isSmeltBy_35 : decode cX8_isSmeltBy 35 = .ok (.aload_n 0, 1) := by decide +kernel
theorem dX8_isSmeltBy_36 : decode cX8_isSmeltBy 36 = .ok (.getfield 230, 3) := by decide +kernel
theorem dX8_isSmeltBy_39 : decode cX8_isSmeltBy 39 = .ok (.imul, 1) := by decide +kernel
theorem dX8_isSmeltBy_40 : decode cX8_isSmeltBy 40 = .ok (.iload_n 1, 1) := by decide +kernel
theorem dX8_isSmeltBy_41 : decode cX8_isSmeltBy 41 = .ok (.iadd, 1) := by decide +kernel
theorem dX8_isSmeltBy_42 : decode cX8_isSmeltBy 42 = .ok (.iaload, 1) := by decide +kernel
theorem dX8_isSmeltBy_43 : decode cX8_isSmeltBy 43 = .ok (.if_icmp .gt 121, 3) := by decide +kernel
theorem dX8_isSmeltBy_46 : decode cX8_isSmeltBy 46 = .ok (.aload_n 0, 1) := by decide +kernel
theorem dX8_isSmeltBy_47 : decode cX8_isSmeltBy 47 = .ok (.iload_n 3, 1) := by decide +kernel
theorem dX8_isSmeltBy_48 : decode cX8_isSmeltBy 48 = .ok (.iload 4, 2) := by decide +kernel
theorem dX8_isSmeltBy_50 : decode cX8_isSmeltBy 50 = .ok (.invokevirtual 360, 3) := by decide +kernel
theorem dX8_isSmeltBy_53 : decode cX8_isSmeltBy 53 = .ok (.ifCond .eq 19, 3) := by decide +kernel
theorem dX8_isSmeltBy_56 : decode cX8_isSmeltBy 56 = .ok (.iload 6, 2) := by decide +kernel
theorem dX8_isSmeltBy_58 : decode cX8_isSmeltBy 58 = .ok (.ifCond .le 16, 3) := by decide +kernel
theorem dX8_isSmeltBy_61 : decode cX8_isSmeltBy 61 = .ok (.aload_n 0, 1) := by decide +kernel
theorem dX8_isSmeltBy_62 : decode cX8_isSmeltBy 62 = .ok (.iload_n 3, 1) := by decide +kernel
theorem dX8_isSmeltBy_63 : decode cX8_isSmeltBy 63 = .ok (.iload 4, 2) := by decide +kernel
theorem dX8_isSmeltBy_65 : decode cX8_isSmeltBy 65 = .ok (.invokevirtual 319, 3) := by decide +kernel
theorem dX8_isSmeltBy_68 : decode cX8_isSmeltBy 68 = .ok (.iconst 1, 1) := by decide +kernel
theorem dX8_isSmeltBy_69 : decode cX8_isSmeltBy 69 = .ok (.if_icmp .ne 5, 3) := by decide +kernel
theorem dX8_isSmeltBy_72 : decode cX8_isSmeltBy 72 = .ok (.iconst 0, 1) := by decide +kernel
theorem dX8_isSmeltBy_73 : decode cX8_isSmeltBy 73 = .ok (.ireturn, 1) := by decide +kernel
theorem dX8_isSmeltBy_74 : decode cX8_isSmeltBy 74 = .ok (.iconst 0, 1) := by decide +kernel
theorem dX8_isSmeltBy_75 : decode cX8_isSmeltBy 75 = .ok (.istore 7, 2) := by decide +kernel
theorem dX8_isSmeltBy_77 : decode cX8_isSmeltBy 77 = .ok (.iload 7, 2) := by decide +kernel
theorem dX8_isSmeltBy_79 : decode cX8_isSmeltBy 79 = .ok (.aload_n 0, 1) := by decide +kernel
theorem dX8_isSmeltBy_80 : decode cX8_isSmeltBy 80 = .ok (.getfield 52, 3) := by decide +kernel
theorem dX8_isSmeltBy_83 : decode cX8_isSmeltBy 83 = .ok (.aload_n 0, 1) := by decide +kernel
theorem dX8_isSmeltBy_84 : decode cX8_isSmeltBy 84 = .ok (.getfield 230, 3) := by decide +kernel
theorem dX8_isSmeltBy_87 : decode cX8_isSmeltBy 87 = .ok (.iaload, 1) := by decide +kernel
theorem dX8_isSmeltBy_88 : decode cX8_isSmeltBy 88 = .ok (.if_icmp .ge 52, 3) := by decide +kernel
theorem dX8_isSmeltBy_91 : decode cX8_isSmeltBy 91 = .ok (.iload 7, 2) := by decide +kernel
theorem dX8_isSmeltBy_93 : decode cX8_isSmeltBy 93 = .ok (.iload_n 1, 1) := by decide +kernel
theorem dX8_isSmeltBy_94 : decode cX8_isSmeltBy 94 = .ok (.if_icmp .eq 40, 3) := by decide +kernel
theorem dX8_isSmeltBy_97 : decode cX8_isSmeltBy 97 = .ok (.aload_n 0, 1) := by decide +kernel
theorem dX8_isSmeltBy_98 : decode cX8_isSmeltBy 98 = .ok (.iload 7, 2) := by decide +kernel
theorem dX8_isSmeltBy_100 : decode cX8_isSmeltBy 100 = .ok (.invokevirtual 347, 3) := by decide +kernel
theorem dX8_isSmeltBy_103 : decode cX8_isSmeltBy 103 = .ok (.ifCond .eq 31, 3) := by decide +kernel
theorem dX8_isSmeltBy_106 : decode cX8_isSmeltBy 106 = .ok (.aload_n 0, 1) := by decide +kernel
theorem dX8_isSmeltBy_107 : decode cX8_isSmeltBy 107 = .ok (.getfield 113, 3) := by decide +kernel
theorem dX8_isSmeltBy_110 : decode cX8_isSmeltBy 110 = .ok (.iload 7, 2) := by decide +kernel
theorem dX8_isSmeltBy_112 : decode cX8_isSmeltBy 112 = .ok (.iaload, 1) := by decide +kernel
theorem dX8_isSmeltBy_113 : decode cX8_isSmeltBy 113 = .ok (.iload_n 3, 1) := by decide +kernel
theorem dX8_isSmeltBy_114 : decode cX8_isSmeltBy 114 = .ok (.if_icmp .ne 20, 3) := by decide +kernel
theorem dX8_isSmeltBy_117 : decode cX8_isSmeltBy 117 = .ok (.aload_n 0, 1) := by decide +kernel
theorem dX8_isSmeltBy_118 : decode cX8_isSmeltBy 118 = .ok (.getfield 113, 3) := by decide +kernel
theorem dX8_isSmeltBy_121 : decode cX8_isSmeltBy 121 = .ok (.bipush 6, 2) := by decide +kernel
theorem dX8_isSmeltBy_123 : decode cX8_isSmeltBy 123 = .ok (.iload 7, 2) := by decide +kernel
theorem dX8_isSmeltBy_125 : decode cX8_isSmeltBy 125 = .ok (.iadd, 1) := by decide +kernel
theorem dX8_isSmeltBy_126 : decode cX8_isSmeltBy 126 = .ok (.iaload, 1) := by decide +kernel
theorem dX8_isSmeltBy_127 : decode cX8_isSmeltBy 127 = .ok (.iload 4, 2) := by decide +kernel
theorem dX8_isSmeltBy_129 : decode cX8_isSmeltBy 129 = .ok (.if_icmp .ne 5, 3) := by decide +kernel
theorem dX8_isSmeltBy_132 : decode cX8_isSmeltBy 132 = .ok (.iconst 1, 1) := by decide +kernel
theorem dX8_isSmeltBy_133 : decode cX8_isSmeltBy 133 = .ok (.ireturn, 1) := by decide +kernel
theorem dX8_isSmeltBy_134 : decode cX8_isSmeltBy 134 = .ok (.iinc 7 1, 3) := by decide +kernel
theorem dX8_isSmeltBy_137 : decode cX8_isSmeltBy 137 = .ok (.goto (-60), 3) := by decide +kernel
theorem dX8_isSmeltBy_140 : decode cX8_isSmeltBy 140 = .ok (.iload_n 3, 1) := by decide +kernel
theorem dX8_isSmeltBy_141 : decode cX8_isSmeltBy 141 = .ok (.iload 5, 2) := by decide +kernel
theorem dX8_isSmeltBy_143 : decode cX8_isSmeltBy 143 = .ok (.invokestatic 354, 3) := by decide +kernel
theorem dX8_isSmeltBy_146 : decode cX8_isSmeltBy 146 = .ok (.iadd, 1) := by decide +kernel
theorem dX8_isSmeltBy_147 : decode cX8_isSmeltBy 147 = .ok (.istore_n 3, 1) := by decide +kernel
theorem dX8_isSmeltBy_148 : decode cX8_isSmeltBy 148 = .ok (.iload 4, 2) := by decide +kernel
theorem dX8_isSmeltBy_150 : decode cX8_isSmeltBy 150 = .ok (.iload 5, 2) := by decide +kernel
theorem dX8_isSmeltBy_152 : decode cX8_isSmeltBy 152 = .ok (.invokestatic 357, 3) := by decide +kernel
theorem dX8_isSmeltBy_155 : decode cX8_isSmeltBy 155 = .ok (.iadd, 1) := by decide +kernel
theorem dX8_isSmeltBy_156 : decode cX8_isSmeltBy 156 = .ok (.istore 4, 2) := by decide +kernel
theorem dX8_isSmeltBy_158 : decode cX8_isSmeltBy 158 = .ok (.iinc 6 1, 3) := by decide +kernel
theorem dX8_isSmeltBy_161 : decode cX8_isSmeltBy 161 = .ok (.goto (-134), 3) := by decide +kernel
theorem dX8_isSmeltBy_164 : decode cX8_isSmeltBy 164 = .ok (.iconst 0, 1) := by decide +kernel
theorem dX8_isSmeltBy_165 : decode cX8_isSmeltBy 165 = .ok (.ireturn, 1) := by decide +kernel
theorem dX8_comesTo_0 : decode cX8_comesTo 0 = .ok (.aload_n 0, 1) := by decide +kernel
theorem dX8_comesTo_1 : decode cX8_comesTo 1 = .ok (.getfield 125, 3) := by decide +kernel
theorem dX8_comesTo_4 : decode cX8_comesTo 4 = .ok (.iload_n 1, 1) := by decide +kernel
theorem dX8_comesTo_5 : decode cX8_comesTo 5 = .ok (.baload, 1) := by decide +kernel
theorem dX8_comesTo_6 : decode cX8_comesTo 6 = .ok (.ifCond .eq 5, 3) := by decide +kernel
theorem dX8_comesTo_9 : decode cX8_comesTo 9 = .ok (.iconst 1, 1) := by decide +kernel
theorem dX8_comesTo_10 : decode cX8_comesTo 10 = .ok (.ireturn, 1) := by decide +kernel
theorem dX8_comesTo_11 : decode cX8_comesTo 11 = .ok (.iconst 1, 1) := by decide +kernel
theorem dX8_comesTo_12 : decode cX8_comesTo 12 = .ok (.istore_n 2, 1) := by decide +kernel
theorem dX8_comesTo_13 : decode cX8_comesTo 13 = .ok (.iload_n 2, 1) := by decide +kernel
theorem dX8_comesTo_14 : decode cX8_comesTo 14 = .ok (.iconst 4, 1) := by decide +kernel
theorem dX8_comesTo_15 : decode cX8_comesTo 15 = .ok (.if_icmp .gt 57, 3) := by decide +kernel
theorem dX8_comesTo_18 : decode cX8_comesTo 18 = .ok (.iload_n 1, 1) := by decide +kernel
theorem dX8_comesTo_19 : decode cX8_comesTo 19 = .ok (.bipush 8, 2) := by decide +kernel
theorem dX8_comesTo_21 : decode cX8_comesTo 21 = .ok (.irem, 1) := by decide +kernel
theorem dX8_comesTo_22 : decode cX8_comesTo 22 = .ok (.iload_n 2, 1) := by decide +kernel
theorem dX8_comesTo_23 : decode cX8_comesTo 23 = .ok (.invokestatic 354, 3) := by decide +kernel
theorem dX8_comesTo_26 : decode cX8_comesTo 26 = .ok (.iadd, 1) := by decide +kernel
theorem dX8_comesTo_27 : decode cX8_comesTo 27 = .ok (.istore_n 3, 1) := by decide +kernel
theorem dX8_comesTo_28 : decode cX8_comesTo 28 = .ok (.iload_n 1, 1) := by decide +kernel
theorem dX8_comesTo_29 : decode cX8_comesTo 29 = .ok (.bipush 8, 2) := by decide +kernel
theorem dX8_comesTo_31 : decode cX8_comesTo 31 = .ok (.idiv, 1) := by decide +kernel
theorem dX8_comesTo_32 : decode cX8_comesTo 32 = .ok (.iload_n 2, 1) := by decide +kernel
theorem dX8_comesTo_33 : decode cX8_comesTo 33 = .ok (.invokestatic 357, 3) := by decide +kernel
theorem dX8_comesTo_36 : decode cX8_comesTo 36 = .ok (.iadd, 1) := by decide +kernel
theorem dX8_comesTo_37 : decode cX8_comesTo 37 = .ok (.istore 4, 2) := by decide +kernel
theorem dX8_comesTo_39 : decode cX8_comesTo 39 = .ok (.aload_n 0, 1) := by decide +kernel
theorem dX8_comesTo_40 : decode cX8_comesTo 40 = .ok (.iload_n 3, 1) := by decide +kernel
theorem dX8_comesTo_41 : decode cX8_comesTo 41 = .ok (.iload 4, 2) := by decide +kernel
theorem dX8_comesTo_43 : decode cX8_comesTo 43 = .ok (.invokevirtual 360, 3) := by decide +kernel
theorem dX8_comesTo_46 : decode cX8_comesTo 46 = .ok (.ifCond .eq 20, 3) := by decide +kernel
theorem dX8_comesTo_49 : decode cX8_comesTo 49 = .ok (.aload_n 0, 1) := by decide +kernel
theorem dX8_comesTo_50 : decode cX8_comesTo 50 = .ok (.getfield 125, 3) := by decide +kernel
theorem dX8_comesTo_53 : decode cX8_comesTo 53 = .ok (.bipush 8, 2) := by decide +kernel
theorem dX8_comesTo_55 : decode cX8_comesTo 55 = .ok (.iload 4, 2) := by decide +kernel
theorem dX8_comesTo_57 : decode cX8_comesTo 57 = .ok (.imul, 1) := by decide +kernel
theorem dX8_comesTo_58 : decode cX8_comesTo 58 = .ok (.iload_n 3, 1) := by decide +kernel
theorem dX8_comesTo_59 : decode cX8_comesTo 59 = .ok (.iadd, 1) := by decide +kernel
theorem dX8_comesTo_60 : decode cX8_comesTo 60 = .ok (.baload, 1) := by decide +kernel
theorem dX8_comesTo_61 : decode cX8_comesTo 61 = .ok (.ifCond .eq 5, 3) := by decide +kernel
theorem dX8_comesTo_64 : decode cX8_comesTo 64 = .ok (.iconst 1, 1) := by decide +kernel
theorem dX8_comesTo_65 : decode cX8_comesTo 65 = .ok (.ireturn, 1) := by decide +kernel
theorem dX8_comesTo_66 : decode cX8_comesTo 66 = .ok (.iinc 2 1, 3) := by decide +kernel
theorem dX8_comesTo_69 : decode cX8_comesTo 69 = .ok (.goto (-56), 3) := by decide +kernel
theorem dX8_comesTo_72 : decode cX8_comesTo 72 = .ok (.iconst 0, 1) := by decide +kernel
theorem dX8_comesTo_73 : decode cX8_comesTo 73 = .ok (.ireturn, 1) := by decide +kernel
theorem dX8_hidden_0 : decode cX8_hidden 0 = .ok (.aload_n 0, 1) := by decide +kernel
theorem dX8_hidden_1 : decode cX8_hidden 1 = .ok (.iload_n 1, 1) := by decide +kernel
theorem dX8_hidden_2 : decode cX8_hidden 2 = .ok (.invokevirtual 394, 3) := by decide +kernel
theorem dX8_hidden_5 : decode cX8_hidden 5 = .ok (.ifCond .ne 5, 3) := by decide +kernel
theorem dX8_hidden_8 : decode cX8_hidden 8 = .ok (.iconst (-1), 1) := by decide +kernel
theorem dX8_hidden_9 : decode cX8_hidden 9 = .ok (.ireturn, 1) := by decide +kernel
theorem dX8_hidden_10 : decode cX8_hidden 10 = .ok (.aload_n 0, 1) := by decide +kernel
theorem dX8_hidden_11 : decode cX8_hidden 11 = .ok (.invokevirtual 397, 3) := by decide +kernel
theorem dX8_hidden_14 : decode cX8_hidden 14 = .ok (.aload_n 0, 1) := by decide +kernel
theorem dX8_hidden_15 : decode cX8_hidden 15 = .ok (.iload_n 1, 1) := by decide +kernel
theorem dX8_hidden_16 : decode cX8_hidden 16 = .ok (.invokevirtual 385, 3) := by decide +kernel
theorem dX8_hidden_19 : decode cX8_hidden 19 = .ok (.ifCond .eq 6, 3) := by decide +kernel
theorem dX8_hidden_22 : decode cX8_hidden 22 = .ok (.bipush (-2), 2) := by decide +kernel
theorem dX8_hidden_24 : decode cX8_hidden 24 = .ok (.ireturn, 1) := by decide +kernel
theorem dX8_hidden_25 : decode cX8_hidden 25 = .ok (.aload_n 0, 1) := by decide +kernel
theorem dX8_hidden_26 : decode cX8_hidden 26 = .ok (.getfield 113, 3) := by decide +kernel
theorem dX8_hidden_29 : decode cX8_hidden 29 = .ok (.bipush 12, 2) := by decide +kernel
theorem dX8_hidden_31 : decode cX8_hidden 31 = .ok (.iload_n 1, 1) := by decide +kernel
theorem dX8_hidden_32 : decode cX8_hidden 32 = .ok (.iadd, 1) := by decide +kernel
theorem dX8_hidden_33 : decode cX8_hidden 33 = .ok (.iaload, 1) := by decide +kernel
theorem dX8_hidden_34 : decode cX8_hidden 34 = .ok (.ifCond .le 5, 3) := by decide +kernel
theorem dX8_hidden_37 : decode cX8_hidden 37 = .ok (.iconst 0, 1) := by decide +kernel
theorem dX8_hidden_38 : decode cX8_hidden 38 = .ok (.ireturn, 1) := by decide +kernel
theorem dX8_hidden_39 : decode cX8_hidden 39 = .ok (.iconst 0, 1) := by decide +kernel
theorem dX8_hidden_40 : decode cX8_hidden 40 = .ok (.istore_n 2, 1) := by decide +kernel
theorem dX8_hidden_41 : decode cX8_hidden 41 = .ok (.iload_n 2, 1) := by decide +kernel
theorem dX8_hidden_42 : decode cX8_hidden 42 = .ok (.bipush 40, 2) := by decide +kernel
theorem dX8_hidden_44 : decode cX8_hidden 44 = .ok (.if_icmp .ge 43, 3) := by decide +kernel
theorem dX8_hidden_47 : decode cX8_hidden 47 = .ok (.aload_n 0, 1) := by decide +kernel
theorem dX8_hidden_48 : decode cX8_hidden 48 = .ok (.getfield 125, 3) := by decide +kernel
theorem dX8_hidden_51 : decode cX8_hidden 51 = .ok (.iload_n 2, 1) := by decide +kernel
theorem dX8_hidden_52 : decode cX8_hidden 52 = .ok (.iload_n 2, 1) := by decide +kernel
theorem dX8_hidden_53 : decode cX8_hidden 53 = .ok (.bipush 8, 2) := by decide +kernel
theorem dX8_hidden_55 : decode cX8_hidden 55 = .ok (.aload_n 0, 1) := by decide +kernel
theorem dX8_hidden_56 : decode cX8_hidden 56 = .ok (.getfield 113, 3) := by decide +kernel
theorem dX8_hidden_59 : decode cX8_hidden 59 = .ok (.bipush 6, 2) := by decide +kernel
theorem dX8_hidden_61 : decode cX8_hidden 61 = .ok (.iload_n 1, 1) := by decide +kernel
theorem dX8_hidden_62 : decode cX8_hidden 62 = .ok (.iadd, 1) := by decide +kernel
theorem dX8_hidden_63 : decode cX8_hidden 63 = .ok (.iaload, 1) := by decide +kernel
theorem dX8_hidden_64 : decode cX8_hidden 64 = .ok (.imul, 1) := by decide +kernel
theorem dX8_hidden_65 : decode cX8_hidden 65 = .ok (.aload_n 0, 1) := by decide +kernel
theorem dX8_hidden_66 : decode cX8_hidden 66 = .ok (.getfield 113, 3) := by decide +kernel
theorem dX8_hidden_69 : decode cX8_hidden 69 = .ok (.iload_n 1, 1) := by decide +kernel
theorem dX8_hidden_70 : decode cX8_hidden 70 = .ok (.iaload, 1) := by decide +kernel
theorem dX8_hidden_71 : decode cX8_hidden 71 = .ok (.iadd, 1) := by decide +kernel
theorem dX8_hidden_72 : decode cX8_hidden 72 = .ok (.if_icmp .ne 7, 3) := by decide +kernel
theorem dX8_hidden_75 : decode cX8_hidden 75 = .ok (.iconst 1, 1) := by decide +kernel
theorem dX8_hidden_76 : decode cX8_hidden 76 = .ok (.goto 4, 3) := by decide +kernel
theorem dX8_hidden_79 : decode cX8_hidden 79 = .ok (.iconst 0, 1) := by decide +kernel
theorem dX8_hidden_80 : decode cX8_hidden 80 = .ok (.bastore, 1) := by decide +kernel
theorem dX8_hidden_81 : decode cX8_hidden 81 = .ok (.iinc 2 1, 3) := by decide +kernel
theorem dX8_hidden_84 : decode cX8_hidden 84 = .ok (.goto (-43), 3) := by decide +kernel
theorem dX8_hidden_87 : decode cX8_hidden 87 = .ok (.aload_n 0, 1) := by decide +kernel
theorem dX8_hidden_88 : decode cX8_hidden 88 = .ok (.iload_n 1, 1) := by decide +kernel
theorem dX8_hidden_89 : decode cX8_hidden 89 = .ok (.putfield 310, 3) := by decide +kernel
theorem dX8_hidden_92 : decode cX8_hidden 92 = .ok (.iconst 1, 1) := by decide +kernel
theorem dX8_hidden_93 : decode cX8_hidden 93 = .ok (.istore_n 2, 1) := by decide +kernel
theorem dX8_hidden_94 : decode cX8_hidden 94 = .ok (.iload_n 2, 1) := by decide +kernel
theorem dX8_hidden_95 : decode cX8_hidden 95 = .ok (.bipush 40, 2) := by decide +kernel
theorem dX8_hidden_97 : decode cX8_hidden 97 = .ok (.if_icmp .gt 195, 3) := by decide +kernel
theorem dX8_hidden_100 : decode cX8_hidden 100 = .ok (.aload_n 0, 1) := by decide +kernel
theorem dX8_hidden_101 : decode cX8_hidden 101 = .ok (.invokevirtual 382, 3) := by decide +kernel
theorem dX8_hidden_104 : decode cX8_hidden 104 = .ok (.iconst 0, 1) := by decide +kernel
theorem dX8_hidden_105 : decode cX8_hidden 105 = .ok (.istore_n 3, 1) := by decide +kernel
theorem dX8_hidden_106 : decode cX8_hidden 106 = .ok (.iconst 0, 1) := by decide +kernel
theorem dX8_hidden_107 : decode cX8_hidden 107 = .ok (.istore 4, 2) := by decide +kernel
theorem dX8_hidden_109 : decode cX8_hidden 109 = .ok (.iload 4, 2) := by decide +kernel
theorem dX8_hidden_111 : decode cX8_hidden 111 = .ok (.bipush 40, 2) := by decide +kernel
theorem dX8_hidden_113 : decode cX8_hidden 113 = .ok (.if_icmp .ge 137, 3) := by decide +kernel
theorem dX8_hidden_116 : decode cX8_hidden 116 = .ok (.aload_n 0, 1) := by decide +kernel
theorem dX8_hidden_117 : decode cX8_hidden 117 = .ok (.iload 4, 2) := by decide +kernel
theorem dX8_hidden_119 : decode cX8_hidden 119 = .ok (.bipush 8, 2) := by decide +kernel
theorem dX8_hidden_121 : decode cX8_hidden 121 = .ok (.irem, 1) := by decide +kernel
theorem dX8_hidden_122 : decode cX8_hidden 122 = .ok (.iload 4, 2) := by decide +kernel
theorem dX8_hidden_124 : decode cX8_hidden 124 = .ok (.bipush 8, 2) := by decide +kernel
theorem dX8_hidden_126 : decode cX8_hidden 126 = .ok (.idiv, 1) := by decide +kernel
theorem dX8_hidden_127 : decode cX8_hidden 127 = .ok (.invokevirtual 360, 3) := by decide +kernel
theorem dX8_hidden_130 : decode cX8_hidden 130 = .ok (.ifCond .eq 34, 3) := by decide +kernel
theorem dX8_hidden_133 : decode cX8_hidden 133 = .ok (.aload_n 0, 1) := by decide +kernel
theorem dX8_hidden_134 : decode cX8_hidden 134 = .ok (.iload 4, 2) := by decide +kernel
theorem dX8_hidden_136 : decode cX8_hidden 136 = .ok (.bipush 8, 2) := by decide +kernel
theorem dX8_hidden_138 : decode cX8_hidden 138 = .ok (.irem, 1) := by decide +kernel
theorem dX8_hidden_139 : decode cX8_hidden 139 = .ok (.iload 4, 2) := by decide +kernel
theorem dX8_hidden_141 : decode cX8_hidden 141 = .ok (.bipush 8, 2) := by decide +kernel
theorem dX8_hidden_143 : decode cX8_hidden 143 = .ok (.idiv, 1) := by decide +kernel
theorem dX8_hidden_144 : decode cX8_hidden 144 = .ok (.invokevirtual 319, 3) := by decide +kernel
theorem dX8_hidden_147 : decode cX8_hidden 147 = .ok (.iconst 1, 1) := by decide +kernel
theorem dX8_hidden_148 : decode cX8_hidden 148 = .ok (.if_icmp .eq 16, 3) := by decide +kernel
theorem dX8_hidden_151 : decode cX8_hidden 151 = .ok (.aload_n 0, 1) := by decide +kernel
theorem dX8_hidden_152 : decode cX8_hidden 152 = .ok (.iload 4, 2) := by decide +kernel
theorem dX8_hidden_154 : decode cX8_hidden 154 = .ok (.invokevirtual 431, 3) := by decide +kernel
theorem dX8_hidden_157 : decode cX8_hidden 157 = .ok (.ifCond .eq 7, 3) := by decide +kernel
theorem dX8_hidden_160 : decode cX8_hidden 160 = .ok (.iconst 1, 1) := by decide +kernel
theorem dX8_hidden_161 : decode cX8_hidden 161 = .ok (.goto 4, 3) := by decide +kernel
theorem dX8_hidden_164 : decode cX8_hidden 164 = .ok (.iconst 0, 1) := by decide +kernel
theorem dX8_hidden_165 : decode cX8_hidden 165 = .ok (.istore 5, 2) := by decide +kernel
theorem dX8_hidden_167 : decode cX8_hidden 167 = .ok (.iload_n 3, 1) := by decide +kernel
theorem dX8_hidden_168 : decode cX8_hidden 168 = .ok (.ifCond .ne 26, 3) := by decide +kernel
theorem dX8_hidden_171 : decode cX8_hidden 171 = .ok (.iload 5, 2) := by decide +kernel
theorem dX8_hidden_173 : decode cX8_hidden 173 = .ok (.ifCond .eq 25, 3) := by decide +kernel
theorem dX8_hidden_176 : decode cX8_hidden 176 = .ok (.aload_n 0, 1) := by decide +kernel
theorem dX8_hidden_177 : decode cX8_hidden 177 = .ok (.iload 4, 2) := by decide +kernel
theorem dX8_hidden_179 : decode cX8_hidden 179 = .ok (.bipush 8, 2) := by decide +kernel
theorem dX8_hidden_181 : decode cX8_hidden 181 = .ok (.irem, 1) := by decide +kernel
theorem dX8_hidden_182 : decode cX8_hidden 182 = .ok (.iload 4, 2) := by decide +kernel
theorem dX8_hidden_184 : decode cX8_hidden 184 = .ok (.bipush 8, 2) := by decide +kernel
theorem dX8_hidden_186 : decode cX8_hidden 186 = .ok (.idiv, 1) := by decide +kernel
theorem dX8_hidden_187 : decode cX8_hidden 187 = .ok (.invokevirtual 319, 3) := by decide +kernel
theorem dX8_hidden_190 : decode cX8_hidden 190 = .ok (.iconst 2, 1) := by decide +kernel
theorem dX8_hidden_191 : decode cX8_hidden 191 = .ok (.if_icmp .ne 7, 3) := by decide +kernel
theorem dX8_hidden_194 : decode cX8_hidden 194 = .ok (.iconst 1, 1) := by decide +kernel
theorem dX8_hidden_195 : decode cX8_hidden 195 = .ok (.goto 4, 3) := by decide +kernel
theorem dX8_hidden_198 : decode cX8_hidden 198 = .ok (.iconst 0, 1) := by decide +kernel
theorem dX8_hidden_199 : decode cX8_hidden 199 = .ok (.istore_n 3, 1) := by decide +kernel
theorem dX8_hidden_200 : decode cX8_hidden 200 = .ok (.aload_n 0, 1) := by decide +kernel
theorem dX8_hidden_201 : decode cX8_hidden 201 = .ok (.getfield 128, 3) := by decide +kernel
theorem dX8_hidden_204 : decode cX8_hidden 204 = .ok (.iload 4, 2) := by decide +kernel
theorem dX8_hidden_206 : decode cX8_hidden 206 = .ok (.iload 5, 2) := by decide +kernel
theorem dX8_hidden_208 : decode cX8_hidden 208 = .ok (.ifCond .eq 34, 3) := by decide +kernel
theorem dX8_hidden_211 : decode cX8_hidden 211 = .ok (.aload_n 0, 1) := by decide +kernel
theorem dX8_hidden_212 : decode cX8_hidden 212 = .ok (.iload 4, 2) := by decide +kernel
theorem dX8_hidden_214 : decode cX8_hidden 214 = .ok (.bipush 8, 2) := by decide +kernel
theorem dX8_hidden_216 : decode cX8_hidden 216 = .ok (.irem, 1) := by decide +kernel
theorem dX8_hidden_217 : decode cX8_hidden 217 = .ok (.iload 4, 2) := by decide +kernel
theorem dX8_hidden_219 : decode cX8_hidden 219 = .ok (.bipush 8, 2) := by decide +kernel
theorem dX8_hidden_221 : decode cX8_hidden 221 = .ok (.idiv, 1) := by decide +kernel
theorem dX8_hidden_222 : decode cX8_hidden 222 = .ok (.invokevirtual 319, 3) := by decide +kernel
theorem dX8_hidden_225 : decode cX8_hidden 225 = .ok (.ifCond .ne 17, 3) := by decide +kernel
theorem dX8_hidden_228 : decode cX8_hidden 228 = .ok (.aload_n 0, 1) := by decide +kernel
theorem dX8_hidden_229 : decode cX8_hidden 229 = .ok (.iload_n 1, 1) := by decide +kernel
theorem dX8_hidden_230 : decode cX8_hidden 230 = .ok (.iload 4, 2) := by decide +kernel
theorem dX8_hidden_232 : decode cX8_hidden 232 = .ok (.invokevirtual 434, 3) := by decide +kernel
theorem dX8_hidden_235 : decode cX8_hidden 235 = .ok (.ifCond .ne 7, 3) := by decide +kernel
theorem dX8_hidden_238 : decode cX8_hidden 238 = .ok (.iconst 1, 1) := by decide +kernel
theorem dX8_hidden_239 : decode cX8_hidden 239 = .ok (.goto 4, 3) := by decide +kernel
theorem dX8_hidden_242 : decode cX8_hidden 242 = .ok (.iconst 0, 1) := by decide +kernel
theorem dX8_hidden_243 : decode cX8_hidden 243 = .ok (.bastore, 1) := by decide +kernel
theorem dX8_hidden_244 : decode cX8_hidden 244 = .ok (.iinc 4 1, 3) := by decide +kernel
theorem dX8_hidden_247 : decode cX8_hidden 247 = .ok (.goto (-138), 3) := by decide +kernel
theorem dX8_hidden_250 : decode cX8_hidden 250 = .ok (.iload_n 3, 1) := by decide +kernel
theorem dX8_hidden_251 : decode cX8_hidden 251 = .ok (.ifCond .eq 5, 3) := by decide +kernel
theorem dX8_hidden_254 : decode cX8_hidden 254 = .ok (.iload_n 2, 1) := by decide +kernel
theorem dX8_hidden_255 : decode cX8_hidden 255 = .ok (.ireturn, 1) := by decide +kernel
theorem dX8_hidden_256 : decode cX8_hidden 256 = .ok (.iconst 0, 1) := by decide +kernel
theorem dX8_hidden_257 : decode cX8_hidden 257 = .ok (.istore 4, 2) := by decide +kernel
theorem dX8_hidden_259 : decode cX8_hidden 259 = .ok (.iload 4, 2) := by decide +kernel
theorem dX8_hidden_261 : decode cX8_hidden 261 = .ok (.bipush 40, 2) := by decide +kernel
theorem dX8_hidden_263 : decode cX8_hidden 263 = .ok (.if_icmp .ge 23, 3) := by decide +kernel
theorem dX8_hidden_266 : decode cX8_hidden 266 = .ok (.aload_n 0, 1) := by decide +kernel
theorem dX8_hidden_267 : decode cX8_hidden 267 = .ok (.getfield 125, 3) := by decide +kernel
theorem dX8_hidden_270 : decode cX8_hidden 270 = .ok (.iload 4, 2) := by decide +kernel
theorem dX8_hidden_272 : decode cX8_hidden 272 = .ok (.aload_n 0, 1) := by decide +kernel
theorem dX8_hidden_273 : decode cX8_hidden 273 = .ok (.getfield 128, 3) := by decide +kernel
theorem dX8_hidden_276 : decode cX8_hidden 276 = .ok (.iload 4, 2) := by decide +kernel
theorem dX8_hidden_278 : decode cX8_hidden 278 = .ok (.baload, 1) := by decide +kernel
theorem dX8_hidden_279 : decode cX8_hidden 279 = .ok (.bastore, 1) := by decide +kernel
theorem dX8_hidden_280 : decode cX8_hidden 280 = .ok (.iinc 4 1, 3) := by decide +kernel
theorem dX8_hidden_283 : decode cX8_hidden 283 = .ok (.goto (-24), 3) := by decide +kernel
theorem dX8_hidden_286 : decode cX8_hidden 286 = .ok (.iinc 2 1, 3) := by decide +kernel
theorem dX8_hidden_289 : decode cX8_hidden 289 = .ok (.goto (-195), 3) := by decide +kernel
theorem dX8_hidden_292 : decode cX8_hidden 292 = .ok (.bipush (-2), 2) := by decide +kernel
theorem dX8_hidden_294 : decode cX8_hidden 294 = .ok (.ireturn, 1) := by decide +kernel
theorem dX8_homeAhead_0 : decode cX8_homeAhead 0 = .ok (.iconst 0, 1) := by decide +kernel
theorem dX8_homeAhead_1 : decode cX8_homeAhead 1 = .ok (.istore_n 3, 1) := by decide +kernel
theorem dX8_homeAhead_2 : decode cX8_homeAhead 2 = .ok (.iconst 0, 1) := by decide +kernel
theorem dX8_homeAhead_3 : decode cX8_homeAhead 3 = .ok (.istore 4, 2) := by decide +kernel
theorem dX8_homeAhead_5 : decode cX8_homeAhead 5 = .ok (.iload 4, 2) := by decide +kernel
theorem dX8_homeAhead_7 : decode cX8_homeAhead 7 = .ok (.aload_n 0, 1) := by decide +kernel
theorem dX8_homeAhead_8 : decode cX8_homeAhead 8 = .ok (.getfield 52, 3) := by decide +kernel
theorem dX8_homeAhead_11 : decode cX8_homeAhead 11 = .ok (.aload_n 0, 1) := by decide +kernel
theorem dX8_homeAhead_12 : decode cX8_homeAhead 12 = .ok (.getfield 230, 3) := by decide +kernel
theorem dX8_homeAhead_15 : decode cX8_homeAhead 15 = .ok (.iaload, 1) := by decide +kernel
theorem dX8_homeAhead_16 : decode cX8_homeAhead 16 = .ok (.if_icmp .ge 51, 3) := by decide +kernel
theorem dX8_homeAhead_19 : decode cX8_homeAhead 19 = .ok (.iload 4, 2) := by decide +kernel
theorem dX8_homeAhead_21 : decode cX8_homeAhead 21 = .ok (.iload_n 1, 1) := by decide +kernel
theorem dX8_homeAhead_22 : decode cX8_homeAhead 22 = .ok (.if_icmp .eq 39, 3) := by decide +kernel
theorem dX8_homeAhead_25 : decode cX8_homeAhead 25 = .ok (.aload_n 0, 1) := by decide +kernel
theorem dX8_homeAhead_26 : decode cX8_homeAhead 26 = .ok (.getfield 113, 3) := by decide +kernel
theorem dX8_homeAhead_29 : decode cX8_homeAhead 29 = .ok (.bipush 12, 2) := by decide +kernel
theorem dX8_homeAhead_31 : decode cX8_homeAhead 31 = .ok (.iload 4, 2) := by decide +kernel
theorem dX8_homeAhead_33 : decode cX8_homeAhead 33 = .ok (.iadd, 1) := by decide +kernel
theorem dX8_homeAhead_34 : decode cX8_homeAhead 34 = .ok (.iaload, 1) := by decide +kernel
theorem dX8_homeAhead_35 : decode cX8_homeAhead 35 = .ok (.ifCond .le 26, 3) := by decide +kernel
theorem dX8_homeAhead_38 : decode cX8_homeAhead 38 = .ok (.aload_n 0, 1) := by decide +kernel
theorem dX8_homeAhead_39 : decode cX8_homeAhead 39 = .ok (.getfield 113, 3) := by decide +kernel
theorem dX8_homeAhead_42 : decode cX8_homeAhead 42 = .ok (.bipush 12, 2) := by decide +kernel
theorem dX8_homeAhead_44 : decode cX8_homeAhead 44 = .ok (.iload 4, 2) := by decide +kernel
theorem dX8_homeAhead_46 : decode cX8_homeAhead 46 = .ok (.iadd, 1) := by decide +kernel
theorem dX8_homeAhead_47 : decode cX8_homeAhead 47 = .ok (.iaload, 1) := by decide +kernel
theorem dX8_homeAhead_48 : decode cX8_homeAhead 48 = .ok (.iload_n 2, 1) := by decide +kernel
theorem dX8_homeAhead_49 : decode cX8_homeAhead 49 = .ok (.if_icmp .le 9, 3) := by decide +kernel
theorem dX8_homeAhead_52 : decode cX8_homeAhead 52 = .ok (.iload 4, 2) := by decide +kernel
theorem dX8_homeAhead_54 : decode cX8_homeAhead 54 = .ok (.iload_n 1, 1) := by decide +kernel
theorem dX8_homeAhead_55 : decode cX8_homeAhead 55 = .ok (.if_icmp .ge 6, 3) := by decide +kernel
theorem dX8_homeAhead_58 : decode cX8_homeAhead 58 = .ok (.iinc 3 1, 3) := by decide +kernel
theorem dX8_homeAhead_61 : decode cX8_homeAhead 61 = .ok (.iinc 4 1, 3) := by decide +kernel
theorem dX8_homeAhead_64 : decode cX8_homeAhead 64 = .ok (.goto (-59), 3) := by decide +kernel
theorem dX8_homeAhead_67 : decode cX8_homeAhead 67 = .ok (.iload_n 3, 1) := by decide +kernel
theorem dX8_homeAhead_68 : decode cX8_homeAhead 68 = .ok (.ireturn, 1) := by decide +kernel
theorem dX8_inPlace_0 : decode cX8_inPlace 0 = .ok (.aload_n 0, 1) := by decide +kernel
theorem dX8_inPlace_1 : decode cX8_inPlace 1 = .ok (.iload_n 1, 1) := by decide +kernel
theorem dX8_inPlace_2 : decode cX8_inPlace 2 = .ok (.invokevirtual 394, 3) := by decide +kernel
theorem dX8_inPlace_5 : decode cX8_inPlace 5 = .ok (.ifCond .eq 13, 3) := by decide +kernel
theorem dX8_inPlace_8 : decode cX8_inPlace 8 = .ok (.iload_n 2, 1) := by decide +kernel
theorem dX8_inPlace_9 : decode cX8_inPlace 9 = .ok (.iconst 1, 1) := by decide +kernel
theorem dX8_inPlace_10 : decode cX8_inPlace 10 = .ok (.bipush 6, 2) := by decide +kernel
theorem dX8_inPlace_12 : decode cX8_inPlace 12 = .ok (.invokestatic 303, 3) := by decide +kernel
theorem dX8_inPlace_15 : decode cX8_inPlace 15 = .ok (.ifCond .ne 5, 3) := by decide +kernel
theorem dX8_inPlace_18 : decode cX8_inPlace 18 = .ok (.iconst (-1), 1) := by decide +kernel
theorem dX8_inPlace_19 : decode cX8_inPlace 19 = .ok (.ireturn, 1) := by decide +kernel
theorem dX8_inPlace_20 : decode cX8_inPlace 20 = .ok (.aload_n 0, 1) := by decide +kernel
theorem dX8_inPlace_21 : decode cX8_inPlace 21 = .ok (.iload_n 1, 1) := by decide +kernel
theorem dX8_inPlace_22 : decode cX8_inPlace 22 = .ok (.invokevirtual 428, 3) := by decide +kernel
theorem dX8_inPlace_25 : decode cX8_inPlace 25 = .ok (.istore_n 3, 1) := by decide +kernel
theorem dX8_inPlace_26 : decode cX8_inPlace 26 = .ok (.iload_n 3, 1) := by decide +kernel
theorem dX8_inPlace_27 : decode cX8_inPlace 27 = .ok (.iconst 1, 1) := by decide +kernel
theorem dX8_inPlace_28 : decode cX8_inPlace 28 = .ok (.if_icmp .ge 6, 3) := by decide +kernel
theorem dX8_inPlace_31 : decode cX8_inPlace 31 = .ok (.bipush (-2), 2) := by decide +kernel
theorem dX8_inPlace_33 : decode cX8_inPlace 33 = .ok (.ireturn, 1) := by decide +kernel
theorem dX8_inPlace_34 : decode cX8_inPlace 34 = .ok (.aload_n 0, 1) := by decide +kernel
theorem dX8_inPlace_35 : decode cX8_inPlace 35 = .ok (.iload_n 1, 1) := by decide +kernel
theorem dX8_inPlace_36 : decode cX8_inPlace 36 = .ok (.putfield 310, 3) := by decide +kernel
theorem dX8_inPlace_39 : decode cX8_inPlace 39 = .ok (.iconst 1, 1) := by decide +kernel
theorem dX8_inPlace_40 : decode cX8_inPlace 40 = .ok (.istore 4, 2) := by decide +kernel
theorem dX8_inPlace_42 : decode cX8_inPlace 42 = .ok (.iload 4, 2) := by decide +kernel
theorem dX8_inPlace_44 : decode cX8_inPlace 44 = .ok (.bipush 40, 2) := by decide +kernel
theorem dX8_inPlace_46 : decode cX8_inPlace 46 = .ok (.if_icmp .gt 44, 3) := by decide +kernel
theorem dX8_inPlace_49 : decode cX8_inPlace 49 = .ok (.aload_n 0, 1) := by decide +kernel
theorem dX8_inPlace_50 : decode cX8_inPlace 50 = .ok (.getfield 113, 3) := by decide +kernel
theorem dX8_inPlace_53 : decode cX8_inPlace 53 = .ok (.bipush 31, 2) := by decide +kernel
theorem dX8_inPlace_55 : decode cX8_inPlace 55 = .ok (.iaload, 1) := by decide +kernel
theorem dX8_inPlace_56 : decode cX8_inPlace 56 = .ok (.istore 5, 2) := by decide +kernel
theorem dX8_inPlace_58 : decode cX8_inPlace 58 = .ok (.aload_n 0, 1) := by decide +kernel
theorem dX8_inPlace_59 : decode cX8_inPlace 59 = .ok (.invokevirtual 382, 3) := by decide +kernel
theorem dX8_inPlace_62 : decode cX8_inPlace 62 = .ok (.iload 4, 2) := by decide +kernel
theorem dX8_inPlace_64 : decode cX8_inPlace 64 = .ok (.iload_n 3, 1) := by decide +kernel
theorem dX8_inPlace_65 : decode cX8_inPlace 65 = .ok (.if_icmp .lt 19, 3) := by decide +kernel
theorem dX8_inPlace_68 : decode cX8_inPlace 68 = .ok (.aload_n 0, 1) := by decide +kernel
theorem dX8_inPlace_69 : decode cX8_inPlace 69 = .ok (.iload_n 1, 1) := by decide +kernel
theorem dX8_inPlace_70 : decode cX8_inPlace 70 = .ok (.iload 5, 2) := by decide +kernel
theorem dX8_inPlace_72 : decode cX8_inPlace 72 = .ok (.invokevirtual 437, 3) := by decide +kernel
theorem dX8_inPlace_75 : decode cX8_inPlace 75 = .ok (.iload_n 2, 1) := by decide +kernel
theorem dX8_inPlace_76 : decode cX8_inPlace 76 = .ok (.iconst 1, 1) := by decide +kernel
theorem dX8_inPlace_77 : decode cX8_inPlace 77 = .ok (.isub, 1) := by decide +kernel
theorem dX8_inPlace_78 : decode cX8_inPlace 78 = .ok (.if_icmp .ne 6, 3) := by decide +kernel
theorem dX8_inPlace_81 : decode cX8_inPlace 81 = .ok (.iload 4, 2) := by decide +kernel
theorem dX8_inPlace_83 : decode cX8_inPlace 83 = .ok (.ireturn, 1) := by decide +kernel
theorem dX8_inPlace_84 : decode cX8_inPlace 84 = .ok (.iinc 4 1, 3) := by decide +kernel
theorem dX8_inPlace_87 : decode cX8_inPlace 87 = .ok (.goto (-45), 3) := by decide +kernel
theorem dX8_inPlace_90 : decode cX8_inPlace 90 = .ok (.bipush (-2), 2) := by decide +kernel
theorem dX8_inPlace_92 : decode cX8_inPlace 92 = .ok (.ireturn, 1) := by decide +kernel
theorem dX8_smelt_0 : decode cX8_smelt 0 = .ok (.aload_n 0, 1) := by decide +kernel
theorem dX8_smelt_1 : decode cX8_smelt 1 = .ok (.iload_n 1, 1) := by decide +kernel
theorem dX8_smelt_2 : decode cX8_smelt 2 = .ok (.invokevirtual 394, 3) := by decide +kernel
theorem dX8_smelt_5 : decode cX8_smelt 5 = .ok (.ifCond .eq 16, 3) := by decide +kernel
theorem dX8_smelt_8 : decode cX8_smelt 8 = .ok (.aload_n 0, 1) := by decide +kernel
theorem dX8_smelt_9 : decode cX8_smelt 9 = .ok (.iload_n 2, 1) := by decide +kernel
theorem dX8_smelt_10 : decode cX8_smelt 10 = .ok (.invokevirtual 394, 3) := by decide +kernel
theorem dX8_smelt_13 : decode cX8_smelt 13 = .ok (.ifCond .eq 8, 3) := by decide +kernel
theorem dX8_smelt_16 : decode cX8_smelt 16 = .ok (.iload_n 1, 1) := by decide +kernel
theorem dX8_smelt_17 : decode cX8_smelt 17 = .ok (.iload_n 2, 1) := by decide +kernel
theorem dX8_smelt_18 : decode cX8_smelt 18 = .ok (.if_icmp .ne 5, 3) := by decide +kernel
theorem dX8_smelt_21 : decode cX8_smelt 21 = .ok (.iconst (-1), 1) := by decide +kernel
theorem dX8_smelt_22 : decode cX8_smelt 22 = .ok (.ireturn, 1) := by decide +kernel
theorem dX8_smelt_23 : decode cX8_smelt 23 = .ok (.aload_n 0, 1) := by decide +kernel
theorem dX8_smelt_24 : decode cX8_smelt 24 = .ok (.invokevirtual 397, 3) := by decide +kernel
theorem dX8_smelt_27 : decode cX8_smelt 27 = .ok (.iconst 0, 1) := by decide +kernel
theorem dX8_smelt_28 : decode cX8_smelt 28 = .ok (.istore_n 3, 1) := by decide +kernel
theorem dX8_smelt_29 : decode cX8_smelt 29 = .ok (.iload_n 3, 1) := by decide +kernel
theorem dX8_smelt_30 : decode cX8_smelt 30 = .ok (.bipush 100, 2) := by decide +kernel
theorem dX8_smelt_32 : decode cX8_smelt 32 = .ok (.if_icmp .gt 28, 3) := by decide +kernel
theorem dX8_smelt_35 : decode cX8_smelt 35 = .ok (.aload_n 0, 1) := by decide +kernel
theorem dX8_smelt_36 : decode cX8_smelt 36 = .ok (.iload_n 1, 1) := by decide +kernel
theorem dX8_smelt_37 : decode cX8_smelt 37 = .ok (.invokevirtual 370, 3) := by decide +kernel
theorem dX8_smelt_40 : decode cX8_smelt 40 = .ok (.iload_n 2, 1) := by decide +kernel
theorem dX8_smelt_41 : decode cX8_smelt 41 = .ok (.ishr, 1) := by decide +kernel
theorem dX8_smelt_42 : decode cX8_smelt 42 = .ok (.iconst 1, 1) := by decide +kernel
theorem dX8_smelt_43 : decode cX8_smelt 43 = .ok (.iand, 1) := by decide +kernel
theorem dX8_smelt_44 : decode cX8_smelt 44 = .ok (.iconst 1, 1) := by decide +kernel
theorem dX8_smelt_45 : decode cX8_smelt 45 = .ok (.if_icmp .ne 5, 3) := by decide +kernel
theorem dX8_smelt_48 : decode cX8_smelt 48 = .ok (.iload_n 3, 1) := by decide +kernel
theorem dX8_smelt_49 : decode cX8_smelt 49 = .ok (.ireturn, 1) := by decide +kernel
theorem dX8_smelt_50 : decode cX8_smelt 50 = .ok (.aload_n 0, 1) := by decide +kernel
theorem dX8_smelt_51 : decode cX8_smelt 51 = .ok (.invokevirtual 382, 3) := by decide +kernel
theorem dX8_smelt_54 : decode cX8_smelt 54 = .ok (.iinc 3 1, 3) := by decide +kernel
theorem dX8_smelt_57 : decode cX8_smelt 57 = .ok (.goto (-28), 3) := by decide +kernel
theorem dX8_smelt_60 : decode cX8_smelt 60 = .ok (.bipush (-2), 2) := by decide +kernel
theorem dX8_smelt_62 : decode cX8_smelt 62 = .ok (.ireturn, 1) := by decide +kernel
theorem dX8_isWater_0 : decode cX8_isWater 0 = .ok (.aload_n 0, 1) := by decide +kernel
theorem dX8_isWater_1 : decode cX8_isWater 1 = .ok (.iload_n 1, 1) := by decide +kernel
theorem dX8_isWater_2 : decode cX8_isWater 2 = .ok (.iload_n 2, 1) := by decide +kernel
theorem dX8_isWater_3 : decode cX8_isWater 3 = .ok (.invokevirtual 360, 3) := by decide +kernel
theorem dX8_isWater_6 : decode cX8_isWater 6 = .ok (.ifCond .eq 16, 3) := by decide +kernel
theorem dX8_isWater_9 : decode cX8_isWater 9 = .ok (.aload_n 0, 1) := by decide +kernel
theorem dX8_isWater_10 : decode cX8_isWater 10 = .ok (.iload_n 1, 1) := by decide +kernel
theorem dX8_isWater_11 : decode cX8_isWater 11 = .ok (.iload_n 2, 1) := by decide +kernel
theorem dX8_isWater_12 : decode cX8_isWater 12 = .ok (.invokevirtual 319, 3) := by decide +kernel
theorem dX8_isWater_15 : decode cX8_isWater 15 = .ok (.ifCond .ne 7, 3) := by decide +kernel
theorem dX8_isWater_18 : decode cX8_isWater 18 = .ok (.iconst 1, 1) := by decide +kernel
theorem dX8_isWater_19 : decode cX8_isWater 19 = .ok (.goto 4, 3) := by decide +kernel
theorem dX8_isWater_22 : decode cX8_isWater 22 = .ok (.iconst 0, 1) := by decide +kernel
theorem dX8_isWater_23 : decode cX8_isWater 23 = .ok (.ireturn, 1) := by decide +kernel
theorem dX8_bare_0 : decode cX8_bare 0 = .ok (.iload_n 1, 1) := by decide +kernel
theorem dX8_bare_1 : decode cX8_bare 1 = .ok (.invokestatic 409, 3) := by decide +kernel
theorem dX8_bare_4 : decode cX8_bare 4 = .ok (.ifCond .ne 5, 3) := by decide +kernel
theorem dX8_bare_7 : decode cX8_bare 7 = .ok (.iconst (-1), 1) := by decide +kernel
theorem dX8_bare_8 : decode cX8_bare 8 = .ok (.ireturn, 1) := by decide +kernel
theorem dX8_bare_9 : decode cX8_bare 9 = .ok (.aload_n 0, 1) := by decide +kernel
theorem dX8_bare_10 : decode cX8_bare 10 = .ok (.invokevirtual 397, 3) := by decide +kernel
theorem dX8_bare_13 : decode cX8_bare 13 = .ok (.aload_n 0, 1) := by decide +kernel
theorem dX8_bare_14 : decode cX8_bare 14 = .ok (.iload_n 1, 1) := by decide +kernel
theorem dX8_bare_15 : decode cX8_bare 15 = .ok (.invokevirtual 403, 3) := by decide +kernel
theorem dX8_bare_18 : decode cX8_bare 18 = .ok (.iconst 0, 1) := by decide +kernel
theorem dX8_bare_19 : decode cX8_bare 19 = .ok (.istore_n 2, 1) := by decide +kernel
theorem dX8_bare_20 : decode cX8_bare 20 = .ok (.iconst 0, 1) := by decide +kernel
theorem dX8_bare_21 : decode cX8_bare 21 = .ok (.istore_n 3, 1) := by decide +kernel
theorem dX8_bare_22 : decode cX8_bare 22 = .ok (.iload_n 3, 1) := by decide +kernel
theorem dX8_bare_23 : decode cX8_bare 23 = .ok (.bipush 40, 2) := by decide +kernel
theorem dX8_bare_25 : decode cX8_bare 25 = .ok (.if_icmp .ge 42, 3) := by decide +kernel
theorem dX8_bare_28 : decode cX8_bare 28 = .ok (.aload_n 0, 1) := by decide +kernel
theorem dX8_bare_29 : decode cX8_bare 29 = .ok (.iload_n 3, 1) := by decide +kernel
theorem dX8_bare_30 : decode cX8_bare 30 = .ok (.bipush 8, 2) := by decide +kernel
theorem dX8_bare_32 : decode cX8_bare 32 = .ok (.irem, 1) := by decide +kernel
theorem dX8_bare_33 : decode cX8_bare 33 = .ok (.iload_n 3, 1) := by decide +kernel
theorem dX8_bare_34 : decode cX8_bare 34 = .ok (.bipush 8, 2) := by decide +kernel
theorem dX8_bare_36 : decode cX8_bare 36 = .ok (.idiv, 1) := by decide +kernel
theorem dX8_bare_37 : decode cX8_bare 37 = .ok (.invokevirtual 440, 3) := by decide +kernel
theorem dX8_bare_40 : decode cX8_bare 40 = .ok (.ifCond .eq 21, 3) := by decide +kernel
theorem dX8_bare_43 : decode cX8_bare 43 = .ok (.aload_n 0, 1) := by decide +kernel
theorem dX8_bare_44 : decode cX8_bare 44 = .ok (.iload_n 3, 1) := by decide +kernel
theorem dX8_bare_45 : decode cX8_bare 45 = .ok (.bipush 8, 2) := by decide +kernel
theorem dX8_bare_47 : decode cX8_bare 47 = .ok (.irem, 1) := by decide +kernel
theorem dX8_bare_48 : decode cX8_bare 48 = .ok (.iload_n 3, 1) := by decide +kernel
theorem dX8_bare_49 : decode cX8_bare 49 = .ok (.bipush 8, 2) := by decide +kernel
theorem dX8_bare_51 : decode cX8_bare 51 = .ok (.idiv, 1) := by decide +kernel
theorem dX8_bare_52 : decode cX8_bare 52 = .ok (.invokevirtual 400, 3) := by decide +kernel
theorem dX8_bare_55 : decode cX8_bare 55 = .ok (.ifCond .ne 6, 3) := by decide +kernel
theorem dX8_bare_58 : decode cX8_bare 58 = .ok (.iinc 2 1, 3) := by decide +kernel
theorem dX8_bare_61 : decode cX8_bare 61 = .ok (.iinc 3 1, 3) := by decide +kernel
theorem dX8_bare_64 : decode cX8_bare 64 = .ok (.goto (-42), 3) := by decide +kernel
theorem dX8_bare_67 : decode cX8_bare 67 = .ok (.iload_n 2, 1) := by decide +kernel
theorem dX8_bare_68 : decode cX8_bare 68 = .ok (.ireturn, 1) := by decide +kernel
theorem dX8_met_0 : decode cX8_met 0 = .ok (.aload_n 0, 1) := by decide +kernel
theorem dX8_met_1 : decode cX8_met 1 = .ok (.iload_n 1, 1) := by decide +kernel
theorem dX8_met_2 : decode cX8_met 2 = .ok (.invokevirtual 394, 3) := by decide +kernel
theorem dX8_met_5 : decode cX8_met 5 = .ok (.ifCond .eq 26, 3) := by decide +kernel
theorem dX8_met_8 : decode cX8_met 8 = .ok (.aload_n 0, 1) := by decide +kernel
theorem dX8_met_9 : decode cX8_met 9 = .ok (.iload_n 2, 1) := by decide +kernel
theorem dX8_met_10 : decode cX8_met 10 = .ok (.invokevirtual 394, 3) := by decide +kernel
theorem dX8_met_13 : decode cX8_met 13 = .ok (.ifCond .eq 18, 3) := by decide +kernel
theorem dX8_met_16 : decode cX8_met 16 = .ok (.iload_n 1, 1) := by decide +kernel
theorem dX8_met_17 : decode cX8_met 17 = .ok (.iload_n 2, 1) := by decide +kernel
theorem dX8_met_18 : decode cX8_met 18 = .ok (.if_icmp .eq 13, 3) := by decide +kernel
theorem dX8_met_21 : decode cX8_met 21 = .ok (.iload_n 3, 1) := by decide +kernel
theorem dX8_met_22 : decode cX8_met 22 = .ok (.iconst 1, 1) := by decide +kernel
theorem dX8_met_23 : decode cX8_met 23 = .ok (.bipush 100, 2) := by decide +kernel
theorem dX8_met_25 : decode cX8_met 25 = .ok (.invokestatic 303, 3) := by decide +kernel
theorem dX8_met_28 : decode cX8_met 28 = .ok (.ifCond .ne 5, 3) := by decide +kernel
theorem dX8_met_31 : decode cX8_met 31 = .ok (.iconst (-1), 1) := by decide +kernel
theorem dX8_met_32 : decode cX8_met 32 = .ok (.ireturn, 1) := by decide +kernel
theorem dX8_met_33 : decode cX8_met 33 = .ok (.aload_n 0, 1) := by decide +kernel
theorem dX8_met_34 : decode cX8_met 34 = .ok (.invokevirtual 397, 3) := by decide +kernel
theorem dX8_met_37 : decode cX8_met 37 = .ok (.iconst 0, 1) := by decide +kernel
theorem dX8_met_38 : decode cX8_met 38 = .ok (.istore 4, 2) := by decide +kernel
theorem dX8_met_40 : decode cX8_met 40 = .ok (.iconst 0, 1) := by decide +kernel
theorem dX8_met_41 : decode cX8_met 41 = .ok (.istore 5, 2) := by decide +kernel
theorem dX8_met_43 : decode cX8_met 43 = .ok (.iload 5, 2) := by decide +kernel
theorem dX8_met_45 : decode cX8_met 45 = .ok (.iload_n 3, 1) := by decide +kernel
theorem dX8_met_46 : decode cX8_met 46 = .ok (.if_icmp .ge 68, 3) := by decide +kernel
theorem dX8_met_49 : decode cX8_met 49 = .ok (.aload_n 0, 1) := by decide +kernel
theorem dX8_met_50 : decode cX8_met 50 = .ok (.invokevirtual 382, 3) := by decide +kernel
theorem dX8_met_53 : decode cX8_met 53 = .ok (.aload_n 0, 1) := by decide +kernel
theorem dX8_met_54 : decode cX8_met 54 = .ok (.iload_n 1, 1) := by decide +kernel
theorem dX8_met_55 : decode cX8_met 55 = .ok (.invokevirtual 347, 3) := by decide +kernel
theorem dX8_met_58 : decode cX8_met 58 = .ok (.ifCond .eq 50, 3) := by decide +kernel
theorem dX8_met_61 : decode cX8_met 61 = .ok (.aload_n 0, 1) := by decide +kernel
theorem dX8_met_62 : decode cX8_met 62 = .ok (.iload_n 2, 1) := by decide +kernel
theorem dX8_met_63 : decode cX8_met 63 = .ok (.invokevirtual 347, 3) := by decide +kernel
theorem dX8_met_66 : decode cX8_met 66 = .ok (.ifCond .eq 42, 3) := by decide +kernel
theorem dX8_met_69 : decode cX8_met 69 = .ok (.aload_n 0, 1) := by decide +kernel
theorem dX8_met_70 : decode cX8_met 70 = .ok (.getfield 113, 3) := by decide +kernel
theorem dX8_met_73 : decode cX8_met 73 = .ok (.iload_n 1, 1) := by decide +kernel
theorem dX8_met_74 : decode cX8_met 74 = .ok (.iaload, 1) := by decide +kernel
theorem dX8_met_75 : decode cX8_met 75 = .ok (.aload_n 0, 1) := by decide +kernel
theorem dX8_met_76 : decode cX8_met 76 = .ok (.getfield 113, 3) := by decide +kernel
theorem dX8_met_79 : decode cX8_met 79 = .ok (.iload_n 2, 1) := by decide +kernel
theorem dX8_met_80 : decode cX8_met 80 = .ok (.iaload, 1) := by decide +kernel
theorem dX8_met_81 : decode cX8_met 81 = .ok (.if_icmp .ne 27, 3) := by decide +kernel
theorem dX8_met_84 : decode cX8_met 84 = .ok (.aload_n 0, 1) := by decide +kernel
theorem dX8_met_85 : decode cX8_met 85 = .ok (.getfield 113, 3) := by decide +kernel
theorem dX8_met_88 : decode cX8_met 88 = .ok (.bipush 6, 2) := by decide +kernel
theorem dX8_met_90 : decode cX8_met 90 = .ok (.iload_n 1, 1) := by decide +kernel
theorem dX8_met_91 : decode cX8_met 91 = .ok (.iadd, 1) := by decide +kernel
theorem dX8_met_92 : decode cX8_met 92 = .ok (.iaload, 1) := by decide +kernel
theorem dX8_met_93 : decode cX8_met 93 = .ok (.aload_n 0, 1) := by decide +kernel
theorem dX8_met_94 : decode cX8_met 94 = .ok (.getfield 113, 3) := by decide +kernel
theorem dX8_met_97 : decode cX8_met 97 = .ok (.bipush 6, 2) := by decide +kernel
theorem dX8_met_99 : decode cX8_met 99 = .ok (.iload_n 2, 1) := by decide +kernel
theorem dX8_met_100 : decode cX8_met 100 = .ok (.iadd, 1) := by decide +kernel
theorem dX8_met_101 : decode cX8_met 101 = .ok (.iaload, 1) := by decide +kernel
theorem dX8_met_102 : decode cX8_met 102 = .ok (.if_icmp .ne 6, 3) := by decide +kernel
theorem dX8_met_105 : decode cX8_met 105 = .ok (.iinc 4 1, 3) := by decide +kernel
theorem dX8_met_108 : decode cX8_met 108 = .ok (.iinc 5 1, 3) := by decide +kernel
theorem dX8_met_111 : decode cX8_met 111 = .ok (.goto (-68), 3) := by decide +kernel
theorem dX8_met_114 : decode cX8_met 114 = .ok (.iload 4, 2) := by decide +kernel
theorem dX8_met_116 : decode cX8_met 116 = .ok (.ireturn, 1) := by decide +kernel
theorem dX8_leader_0 : decode cX8_leader 0 = .ok (.iload_n 1, 1) := by decide +kernel
theorem dX8_leader_1 : decode cX8_leader 1 = .ok (.invokestatic 409, 3) := by decide +kernel
theorem dX8_leader_4 : decode cX8_leader 4 = .ok (.ifCond .ne 5, 3) := by decide +kernel
theorem dX8_leader_7 : decode cX8_leader 7 = .ok (.iconst (-1), 1) := by decide +kernel
theorem dX8_leader_8 : decode cX8_leader 8 = .ok (.ireturn, 1) := by decide +kernel
theorem dX8_leader_9 : decode cX8_leader 9 = .ok (.aload_n 0, 1) := by decide +kernel
theorem dX8_leader_10 : decode cX8_leader 10 = .ok (.getfield 52, 3) := by decide +kernel
theorem dX8_leader_13 : decode cX8_leader 13 = .ok (.aload_n 0, 1) := by decide +kernel
theorem dX8_leader_14 : decode cX8_leader 14 = .ok (.getfield 230, 3) := by decide +kernel
theorem dX8_leader_17 : decode cX8_leader 17 = .ok (.iaload, 1) := by decide +kernel
theorem dX8_leader_18 : decode cX8_leader 18 = .ok (.ifCond .ne 6, 3) := by decide +kernel
theorem dX8_leader_21 : decode cX8_leader 21 = .ok (.bipush (-2), 2) := by decide +kernel
theorem dX8_leader_23 : decode cX8_leader 23 = .ok (.ireturn, 1) := by decide +kernel
theorem dX8_leader_24 : decode cX8_leader 24 = .ok (.aload_n 0, 1) := by decide +kernel
theorem dX8_leader_25 : decode cX8_leader 25 = .ok (.invokevirtual 397, 3) := by decide +kernel
theorem dX8_leader_28 : decode cX8_leader 28 = .ok (.aload_n 0, 1) := by decide +kernel
theorem dX8_leader_29 : decode cX8_leader 29 = .ok (.iload_n 1, 1) := by decide +kernel
theorem dX8_leader_30 : decode cX8_leader 30 = .ok (.invokevirtual 403, 3) := by decide +kernel
theorem dX8_leader_33 : decode cX8_leader 33 = .ok (.aload_n 0, 1) := by decide +kernel
theorem dX8_leader_34 : decode cX8_leader 34 = .ok (.iconst 0, 1) := by decide +kernel
theorem dX8_leader_35 : decode cX8_leader 35 = .ok (.invokevirtual 416, 3) := by decide +kernel
theorem dX8_leader_38 : decode cX8_leader 38 = .ok (.ireturn, 1) := by decide +kernel
theorem dX8_coveredBy_0 : decode cX8_coveredBy 0 = .ok (.iconst 0, 1) := by decide +kernel
theorem dX8_coveredBy_1 : decode cX8_coveredBy 1 = .ok (.istore_n 2, 1) := by decide +kernel
theorem dX8_coveredBy_2 : decode cX8_coveredBy 2 = .ok (.iconst 0, 1) := by decide +kernel
theorem dX8_coveredBy_3 : decode cX8_coveredBy 3 = .ok (.istore_n 3, 1) := by decide +kernel
theorem dX8_coveredBy_4 : decode cX8_coveredBy 4 = .ok (.iload_n 3, 1) := by decide +kernel
theorem dX8_coveredBy_5 : decode cX8_coveredBy 5 = .ok (.bipush 40, 2) := by decide +kernel
theorem dX8_coveredBy_7 : decode cX8_coveredBy 7 = .ok (.if_icmp .ge 44, 3) := by decide +kernel
theorem dX8_coveredBy_10 : decode cX8_coveredBy 10 = .ok (.aload_n 0, 1) := by decide +kernel
theorem dX8_coveredBy_11 : decode cX8_coveredBy 11 = .ok (.iload_n 3, 1) := by decide +kernel
theorem dX8_coveredBy_12 : decode cX8_coveredBy 12 = .ok (.bipush 8, 2) := by decide +kernel
theorem dX8_coveredBy_14 : decode cX8_coveredBy 14 = .ok (.irem, 1) := by decide +kernel
theorem dX8_coveredBy_15 : decode cX8_coveredBy 15 = .ok (.iload_n 3, 1) := by decide +kernel
theorem dX8_coveredBy_16 : decode cX8_coveredBy 16 = .ok (.bipush 8, 2) := by decide +kernel
theorem dX8_coveredBy_18 : decode cX8_coveredBy 18 = .ok (.idiv, 1) := by decide +kernel
theorem dX8_coveredBy_19 : decode cX8_coveredBy 19 = .ok (.invokevirtual 440, 3) := by decide +kernel
theorem dX8_coveredBy_22 : decode cX8_coveredBy 22 = .ok (.ifCond .eq 23, 3) := by decide +kernel
theorem dX8_coveredBy_25 : decode cX8_coveredBy 25 = .ok (.aload_n 0, 1) := by decide +kernel
theorem dX8_coveredBy_26 : decode cX8_coveredBy 26 = .ok (.iload_n 3, 1) := by decide +kernel
theorem dX8_coveredBy_27 : decode cX8_coveredBy 27 = .ok (.bipush 8, 2) := by decide +kernel
theorem dX8_coveredBy_29 : decode cX8_coveredBy 29 = .ok (.irem, 1) := by decide +kernel
theorem dX8_coveredBy_30 : decode cX8_coveredBy 30 = .ok (.iload_n 3, 1) := by decide +kernel
theorem dX8_coveredBy_31 : decode cX8_coveredBy 31 = .ok (.bipush 8, 2) := by decide +kernel
theorem dX8_coveredBy_33 : decode cX8_coveredBy 33 = .ok (.idiv, 1) := by decide +kernel
theorem dX8_coveredBy_34 : decode cX8_coveredBy 34 = .ok (.invokevirtual 400, 3) := by decide +kernel
theorem dX8_coveredBy_37 : decode cX8_coveredBy 37 = .ok (.iload_n 1, 1) := by decide +kernel
theorem dX8_coveredBy_38 : decode cX8_coveredBy 38 = .ok (.iand, 1) := by decide +kernel
theorem dX8_coveredBy_39 : decode cX8_coveredBy 39 = .ok (.ifCond .eq 6, 3) := by decide +kernel
theorem dX8_coveredBy_42 : decode cX8_coveredBy 42 = .ok (.iinc 2 1, 3) := by decide +kernel
theorem dX8_coveredBy_45 : decode cX8_coveredBy 45 = .ok (.iinc 3 1, 3) := by decide +kernel
theorem dX8_coveredBy_48 : decode cX8_coveredBy 48 = .ok (.goto (-44), 3) := by decide +kernel
theorem dX8_coveredBy_51 : decode cX8_coveredBy 51 = .ok (.iload_n 2, 1) := by decide +kernel
theorem dX8_coveredBy_52 : decode cX8_coveredBy 52 = .ok (.ireturn, 1) := by decide +kernel
theorem dX8_cover_0 : decode cX8_cover 0 = .ok (.iload_n 1, 1) := by decide +kernel
theorem dX8_cover_1 : decode cX8_cover 1 = .ok (.iconst 0, 1) := by decide +kernel
theorem dX8_cover_2 : decode cX8_cover 2 = .ok (.iconst 2, 1) := by decide +kernel
theorem dX8_cover_3 : decode cX8_cover 3 = .ok (.invokestatic 303, 3) := by decide +kernel
theorem dX8_cover_6 : decode cX8_cover 6 = .ok (.ifCond .ne 5, 3) := by decide +kernel
theorem dX8_cover_9 : decode cX8_cover 9 = .ok (.iconst (-1), 1) := by decide +kernel
theorem dX8_cover_10 : decode cX8_cover 10 = .ok (.ireturn, 1) := by decide +kernel
theorem dX8_cover_11 : decode cX8_cover 11 = .ok (.aload_n 0, 1) := by decide +kernel
theorem dX8_cover_12 : decode cX8_cover 12 = .ok (.invokevirtual 397, 3) := by decide +kernel
theorem dX8_cover_15 : decode cX8_cover 15 = .ok (.iconst 0, 1) := by decide +kernel
theorem dX8_cover_16 : decode cX8_cover 16 = .ok (.istore_n 2, 1) := by decide +kernel
theorem dX8_cover_17 : decode cX8_cover 17 = .ok (.iconst 0, 1) := by decide +kernel
theorem dX8_cover_18 : decode cX8_cover 18 = .ok (.istore_n 3, 1) := by decide +kernel
theorem dX8_cover_19 : decode cX8_cover 19 = .ok (.iload_n 3, 1) := by decide +kernel
theorem dX8_cover_20 : decode cX8_cover 20 = .ok (.aload_n 0, 1) := by decide +kernel
theorem dX8_cover_21 : decode cX8_cover 21 = .ok (.getfield 52, 3) := by decide +kernel
theorem dX8_cover_24 : decode cX8_cover 24 = .ok (.aload_n 0, 1) := by decide +kernel
theorem dX8_cover_25 : decode cX8_cover 25 = .ok (.getfield 230, 3) := by decide +kernel
theorem dX8_cover_28 : decode cX8_cover 28 = .ok (.iaload, 1) := by decide +kernel
theorem dX8_cover_29 : decode cX8_cover 29 = .ok (.if_icmp .ge 36, 3) := by decide +kernel
theorem dX8_cover_32 : decode cX8_cover 32 = .ok (.aload_n 0, 1) := by decide +kernel
theorem dX8_cover_33 : decode cX8_cover 33 = .ok (.iload_n 3, 1) := by decide +kernel
theorem dX8_cover_34 : decode cX8_cover 34 = .ok (.invokevirtual 347, 3) := by decide +kernel
theorem dX8_cover_37 : decode cX8_cover 37 = .ok (.ifCond .eq 22, 3) := by decide +kernel
theorem dX8_cover_40 : decode cX8_cover 40 = .ok (.aload_n 0, 1) := by decide +kernel
theorem dX8_cover_41 : decode cX8_cover 41 = .ok (.getfield 113, 3) := by decide +kernel
theorem dX8_cover_44 : decode cX8_cover 44 = .ok (.bipush 24, 2) := by decide +kernel
theorem dX8_cover_46 : decode cX8_cover 46 = .ok (.iload_n 3, 1) := by decide +kernel
theorem dX8_cover_47 : decode cX8_cover 47 = .ok (.iadd, 1) := by decide +kernel
theorem dX8_cover_48 : decode cX8_cover 48 = .ok (.iaload, 1) := by decide +kernel
theorem dX8_cover_49 : decode cX8_cover 49 = .ok (.iconst 1, 1) := by decide +kernel
theorem dX8_cover_50 : decode cX8_cover 50 = .ok (.if_icmp .ne 9, 3) := by decide +kernel
theorem dX8_cover_53 : decode cX8_cover 53 = .ok (.iload_n 2, 1) := by decide +kernel
theorem dX8_cover_54 : decode cX8_cover 54 = .ok (.iconst 1, 1) := by decide +kernel
theorem dX8_cover_55 : decode cX8_cover 55 = .ok (.iload_n 3, 1) := by decide +kernel
theorem dX8_cover_56 : decode cX8_cover 56 = .ok (.ishl, 1) := by decide +kernel
theorem dX8_cover_57 : decode cX8_cover 57 = .ok (.ior, 1) := by decide +kernel
theorem dX8_cover_58 : decode cX8_cover 58 = .ok (.istore_n 2, 1) := by decide +kernel
theorem dX8_cover_59 : decode cX8_cover 59 = .ok (.iinc 3 1, 3) := by decide +kernel
theorem dX8_cover_62 : decode cX8_cover 62 = .ok (.goto (-43), 3) := by decide +kernel
theorem dX8_cover_65 : decode cX8_cover 65 = .ok (.iload_n 2, 1) := by decide +kernel
theorem dX8_cover_66 : decode cX8_cover 66 = .ok (.istore_n 3, 1) := by decide +kernel
theorem dX8_cover_67 : decode cX8_cover 67 = .ok (.iconst 0, 1) := by decide +kernel
theorem dX8_cover_68 : decode cX8_cover 68 = .ok (.istore 4, 2) := by decide +kernel
theorem dX8_cover_70 : decode cX8_cover 70 = .ok (.iload 4, 2) := by decide +kernel
theorem dX8_cover_72 : decode cX8_cover 72 = .ok (.iload_n 2, 1) := by decide +kernel
theorem dX8_cover_73 : decode cX8_cover 73 = .ok (.if_icmp .ge 65, 3) := by decide +kernel
theorem dX8_cover_76 : decode cX8_cover 76 = .ok (.iload 4, 2) := by decide +kernel
theorem dX8_cover_78 : decode cX8_cover 78 = .ok (.iload_n 2, 1) := by decide +kernel
theorem dX8_cover_79 : decode cX8_cover 79 = .ok (.iconst (-1), 1) := by decide +kernel
theorem dX8_cover_80 : decode cX8_cover 80 = .ok (.ixor, 1) := by decide +kernel
theorem dX8_cover_81 : decode cX8_cover 81 = .ok (.iand, 1) := by decide +kernel
theorem dX8_cover_82 : decode cX8_cover 82 = .ok (.ifCond .ne 50, 3) := by decide +kernel
theorem dX8_cover_85 : decode cX8_cover 85 = .ok (.iload 4, 2) := by decide +kernel
theorem dX8_cover_87 : decode cX8_cover 87 = .ok (.invokestatic 373, 3) := by decide +kernel
theorem dX8_cover_90 : decode cX8_cover 90 = .ok (.iload_n 3, 1) := by decide +kernel
theorem dX8_cover_91 : decode cX8_cover 91 = .ok (.invokestatic 373, 3) := by decide +kernel
theorem dX8_cover_94 : decode cX8_cover 94 = .ok (.if_icmp .gt 38, 3) := by decide +kernel
theorem dX8_cover_97 : decode cX8_cover 97 = .ok (.aload_n 0, 1) := by decide +kernel
theorem dX8_cover_98 : decode cX8_cover 98 = .ok (.iload 4, 2) := by decide +kernel
theorem dX8_cover_100 : decode cX8_cover 100 = .ok (.invokevirtual 443, 3) := by decide +kernel
theorem dX8_cover_103 : decode cX8_cover 103 = .ok (.aload_n 0, 1) := by decide +kernel
theorem dX8_cover_104 : decode cX8_cover 104 = .ok (.iload_n 2, 1) := by decide +kernel
theorem dX8_cover_105 : decode cX8_cover 105 = .ok (.invokevirtual 443, 3) := by decide +kernel
theorem dX8_cover_108 : decode cX8_cover 108 = .ok (.if_icmp .ne 24, 3) := by decide +kernel
theorem dX8_cover_111 : decode cX8_cover 111 = .ok (.iload 4, 2) := by decide +kernel
theorem dX8_cover_113 : decode cX8_cover 113 = .ok (.invokestatic 373, 3) := by decide +kernel
theorem dX8_cover_116 : decode cX8_cover 116 = .ok (.iload_n 3, 1) := by decide +kernel
theorem dX8_cover_117 : decode cX8_cover 117 = .ok (.invokestatic 373, 3) := by decide +kernel
theorem dX8_cover_120 : decode cX8_cover 120 = .ok (.if_icmp .lt 9, 3) := by decide +kernel
theorem dX8_cover_123 : decode cX8_cover 123 = .ok (.iload 4, 2) := by decide +kernel
theorem dX8_cover_125 : decode cX8_cover 125 = .ok (.iload_n 3, 1) := by decide +kernel
theorem dX8_cover_126 : decode cX8_cover 126 = .ok (.if_icmp .ge 6, 3) := by decide +kernel
theorem dX8_cover_129 : decode cX8_cover 129 = .ok (.iload 4, 2) := by decide +kernel
theorem dX8_cover_131 : decode cX8_cover 131 = .ok (.istore_n 3, 1) := by decide +kernel
theorem dX8_cover_132 : decode cX8_cover 132 = .ok (.iinc 4 1, 3) := by decide +kernel
theorem dX8_cover_135 : decode cX8_cover 135 = .ok (.goto (-65), 3) := by decide +kernel
theorem dX8_cover_138 : decode cX8_cover 138 = .ok (.iload_n 1, 1) := by decide +kernel
theorem dX8_cover_139 : decode cX8_cover 139 = .ok (.ifCond .ne 10, 3) := by decide +kernel
theorem dX8_cover_142 : decode cX8_cover 142 = .ok (.iload_n 3, 1) := by decide +kernel
theorem dX8_cover_143 : decode cX8_cover 143 = .ok (.invokestatic 373, 3) := by decide +kernel
theorem dX8_cover_146 : decode cX8_cover 146 = .ok (.goto 17, 3) := by decide +kernel
theorem dX8_cover_149 : decode cX8_cover 149 = .ok (.iload_n 1, 1) := by decide +kernel
theorem dX8_cover_150 : decode cX8_cover 150 = .ok (.iconst 1, 1) := by decide +kernel
theorem dX8_cover_151 : decode cX8_cover 151 = .ok (.if_icmp .ne 7, 3) := by decide +kernel
theorem dX8_cover_154 : decode cX8_cover 154 = .ok (.iload_n 3, 1) := by decide +kernel
theorem dX8_cover_155 : decode cX8_cover 155 = .ok (.goto 8, 3) := by decide +kernel
theorem dX8_cover_158 : decode cX8_cover 158 = .ok (.aload_n 0, 1) := by decide +kernel
theorem dX8_cover_159 : decode cX8_cover 159 = .ok (.iload_n 2, 1) := by decide +kernel
theorem dX8_cover_160 : decode cX8_cover 160 = .ok (.invokevirtual 443, 3) := by decide +kernel
theorem dX8_cover_163 : decode cX8_cover 163 = .ok (.ireturn, 1) := by decide +kernel
theorem dX8_fillsEast_0 : decode cX8_fillsEast 0 = .ok (.aload_n 0, 1) := by decide +kernel
theorem dX8_fillsEast_1 : decode cX8_fillsEast 1 = .ok (.invokevirtual 397, 3) := by decide +kernel
theorem dX8_fillsEast_4 : decode cX8_fillsEast 4 = .ok (.iconst 0, 1) := by decide +kernel
theorem dX8_fillsEast_5 : decode cX8_fillsEast 5 = .ok (.istore_n 3, 1) := by decide +kernel
theorem dX8_fillsEast_6 : decode cX8_fillsEast 6 = .ok (.iload_n 3, 1) := by decide +kernel
theorem dX8_fillsEast_7 : decode cX8_fillsEast 7 = .ok (.aload_n 0, 1) := by decide +kernel
theorem dX8_fillsEast_8 : decode cX8_fillsEast 8 = .ok (.getfield 52, 3) := by decide +kernel
theorem dX8_fillsEast_11 : decode cX8_fillsEast 11 = .ok (.aload_n 0, 1) := by decide +kernel
theorem dX8_fillsEast_12 : decode cX8_fillsEast 12 = .ok (.getfield 230, 3) := by decide +kernel
theorem dX8_fillsEast_15 : decode cX8_fillsEast 15 = .ok (.iaload, 1) := by decide +kernel
theorem dX8_fillsEast_16 : decode cX8_fillsEast 16 = .ok (.if_icmp .ge 28, 3) := by decide +kernel
theorem dX8_fillsEast_19 : decode cX8_fillsEast 19 = .ok (.iload_n 1, 1) := by decide +kernel
theorem dX8_fillsEast_20 : decode cX8_fillsEast 20 = .ok (.iload_n 3, 1) := by decide +kernel
theorem dX8_fillsEast_21 : decode cX8_fillsEast 21 = .ok (.ishr, 1) := by decide +kernel
theorem dX8_fillsEast_22 : decode cX8_fillsEast 22 = .ok (.iconst 1, 1) := by decide +kernel
theorem dX8_fillsEast_23 : decode cX8_fillsEast 23 = .ok (.iand, 1) := by decide +kernel
theorem dX8_fillsEast_24 : decode cX8_fillsEast 24 = .ok (.iconst 1, 1) := by decide +kernel
theorem dX8_fillsEast_25 : decode cX8_fillsEast 25 = .ok (.if_icmp .ne 13, 3) := by decide +kernel
theorem dX8_fillsEast_28 : decode cX8_fillsEast 28 = .ok (.aload_n 0, 1) := by decide +kernel
theorem dX8_fillsEast_29 : decode cX8_fillsEast 29 = .ok (.getfield 113, 3) := by decide +kernel
theorem dX8_fillsEast_32 : decode cX8_fillsEast 32 = .ok (.bipush 24, 2) := by decide +kernel
theorem dX8_fillsEast_34 : decode cX8_fillsEast 34 = .ok (.iload_n 3, 1) := by decide +kernel
theorem dX8_fillsEast_35 : decode cX8_fillsEast 35 = .ok (.iadd, 1) := by decide +kernel
theorem dX8_fillsEast_36 : decode cX8_fillsEast 36 = .ok (.iconst 0, 1) := by decide +kernel
theorem dX8_fillsEast_37 : decode cX8_fillsEast 37 = .ok (.iastore, 1) := by decide +kernel
theorem dX8_fillsEast_38 : decode cX8_fillsEast 38 = .ok (.iinc 3 1, 3) := by decide +kernel
theorem dX8_fillsEast_41 : decode cX8_fillsEast 41 = .ok (.goto (-35), 3) := by decide +kernel
theorem dX8_fillsEast_44 : decode cX8_fillsEast 44 = .ok (.aload_n 0, 1) := by decide +kernel
theorem dX8_fillsEast_45 : decode cX8_fillsEast 45 = .ok (.iload_n 2, 1) := by decide +kernel
theorem dX8_fillsEast_46 : decode cX8_fillsEast 46 = .ok (.invokevirtual 403, 3) := by decide +kernel
theorem dX8_fillsEast_49 : decode cX8_fillsEast 49 = .ok (.iconst 0, 1) := by decide +kernel
theorem dX8_fillsEast_50 : decode cX8_fillsEast 50 = .ok (.istore_n 3, 1) := by decide +kernel
theorem dX8_fillsEast_51 : decode cX8_fillsEast 51 = .ok (.iload_n 3, 1) := by decide +kernel
theorem dX8_fillsEast_52 : decode cX8_fillsEast 52 = .ok (.aload_n 0, 1) := by decide +kernel
theorem dX8_fillsEast_53 : decode cX8_fillsEast 53 = .ok (.getfield 52, 3) := by decide +kernel
theorem dX8_fillsEast_56 : decode cX8_fillsEast 56 = .ok (.aload_n 0, 1) := by decide +kernel
theorem dX8_fillsEast_57 : decode cX8_fillsEast 57 = .ok (.getfield 230, 3) := by decide +kernel
theorem dX8_fillsEast_60 : decode cX8_fillsEast 60 = .ok (.iaload, 1) := by decide +kernel
theorem dX8_fillsEast_61 : decode cX8_fillsEast 61 = .ok (.if_icmp .ge 55, 3) := by decide +kernel
theorem dX8_fillsEast_64 : decode cX8_fillsEast 64 = .ok (.aload_n 0, 1) := by decide +kernel
theorem dX8_fillsEast_65 : decode cX8_fillsEast 65 = .ok (.getfield 131, 3) := by decide +kernel
theorem dX8_fillsEast_68 : decode cX8_fillsEast 68 = .ok (.bipush 6, 2) := by decide +kernel
theorem dX8_fillsEast_70 : decode cX8_fillsEast 70 = .ok (.iload_n 1, 1) := by decide +kernel
theorem dX8_fillsEast_71 : decode cX8_fillsEast 71 = .ok (.imul, 1) := by decide +kernel
theorem dX8_fillsEast_72 : decode cX8_fillsEast 72 = .ok (.iload_n 3, 1) := by decide +kernel
theorem dX8_fillsEast_73 : decode cX8_fillsEast 73 = .ok (.iadd, 1) := by decide +kernel
theorem dX8_fillsEast_74 : decode cX8_fillsEast 74 = .ok (.aload_n 0, 1) := by decide +kernel
theorem dX8_fillsEast_75 : decode cX8_fillsEast 75 = .ok (.iload_n 3, 1) := by decide +kernel
theorem dX8_fillsEast_76 : decode cX8_fillsEast 76 = .ok (.invokevirtual 385, 3) := by decide +kernel
theorem dX8_fillsEast_79 : decode cX8_fillsEast 79 = .ok (.ifCond .eq 7, 3) := by decide +kernel
theorem dX8_fillsEast_82 : decode cX8_fillsEast 82 = .ok (.iconst (-1), 1) := by decide +kernel
theorem dX8_fillsEast_83 : decode cX8_fillsEast 83 = .ok (.goto 26, 3) := by decide +kernel
theorem dX8_fillsEast_86 : decode cX8_fillsEast 86 = .ok (.aload_n 0, 1) := by decide +kernel
theorem dX8_fillsEast_87 : decode cX8_fillsEast 87 = .ok (.getfield 113, 3) := by decide +kernel
theorem dX8_fillsEast_90 : decode cX8_fillsEast 90 = .ok (.bipush 12, 2) := by decide +kernel
theorem dX8_fillsEast_92 : decode cX8_fillsEast 92 = .ok (.iload_n 3, 1) := by decide +kernel
theorem dX8_fillsEast_93 : decode cX8_fillsEast 93 = .ok (.iadd, 1) := by decide +kernel
theorem dX8_fillsEast_94 : decode cX8_fillsEast 94 = .ok (.iaload, 1) := by decide +kernel
theorem dX8_fillsEast_95 : decode cX8_fillsEast 95 = .ok (.ifCond .le 8, 3) := by decide +kernel
theorem dX8_fillsEast_98 : decode cX8_fillsEast 98 = .ok (.bipush 100, 2) := by decide +kernel
theorem dX8_fillsEast_100 : decode cX8_fillsEast 100 = .ok (.goto 9, 3) := by decide +kernel
theorem dX8_fillsEast_103 : decode cX8_fillsEast 103 = .ok (.aload_n 0, 1) := by decide +kernel
theorem dX8_fillsEast_104 : decode cX8_fillsEast 104 = .ok (.getfield 113, 3) := by decide +kernel
theorem dX8_fillsEast_107 : decode cX8_fillsEast 107 = .ok (.iload_n 3, 1) := by decide +kernel
theorem dX8_fillsEast_108 : decode cX8_fillsEast 108 = .ok (.iaload, 1) := by decide +kernel
theorem dX8_fillsEast_109 : decode cX8_fillsEast 109 = .ok (.iastore, 1) := by decide +kernel
theorem dX8_fillsEast_110 : decode cX8_fillsEast 110 = .ok (.iinc 3 1, 3) := by decide +kernel
theorem dX8_fillsEast_113 : decode cX8_fillsEast 113 = .ok (.goto (-62), 3) := by decide +kernel
theorem dX8_fillsEast_116 : decode cX8_fillsEast 116 = .ok (.return_, 1) := by decide +kernel
theorem dX8_pansOn_0 : decode cX8_pansOn 0 = .ok (.iconst 0, 1) := by decide +kernel
theorem dX8_pansOn_1 : decode cX8_pansOn 1 = .ok (.istore_n 1, 1) := by decide +kernel
theorem dX8_pansOn_2 : decode cX8_pansOn 2 = .ok (.iconst 0, 1) := by decide +kernel
theorem dX8_pansOn_3 : decode cX8_pansOn 3 = .ok (.istore_n 2, 1) := by decide +kernel
theorem dX8_pansOn_4 : decode cX8_pansOn 4 = .ok (.iload_n 2, 1) := by decide +kernel
theorem dX8_pansOn_5 : decode cX8_pansOn 5 = .ok (.aload_n 0, 1) := by decide +kernel
theorem dX8_pansOn_6 : decode cX8_pansOn 6 = .ok (.getfield 52, 3) := by decide +kernel
theorem dX8_pansOn_9 : decode cX8_pansOn 9 = .ok (.aload_n 0, 1) := by decide +kernel
theorem dX8_pansOn_10 : decode cX8_pansOn 10 = .ok (.getfield 230, 3) := by decide +kernel
theorem dX8_pansOn_13 : decode cX8_pansOn 13 = .ok (.iaload, 1) := by decide +kernel
theorem dX8_pansOn_14 : decode cX8_pansOn 14 = .ok (.if_icmp .ge 28, 3) := by decide +kernel
theorem dX8_pansOn_17 : decode cX8_pansOn 17 = .ok (.aload_n 0, 1) := by decide +kernel
theorem dX8_pansOn_18 : decode cX8_pansOn 18 = .ok (.getfield 110, 3) := by decide +kernel
theorem dX8_pansOn_21 : decode cX8_pansOn 21 = .ok (.bipush 24, 2) := by decide +kernel
theorem dX8_pansOn_23 : decode cX8_pansOn 23 = .ok (.iload_n 2, 1) := by decide +kernel
theorem dX8_pansOn_24 : decode cX8_pansOn 24 = .ok (.iadd, 1) := by decide +kernel
theorem dX8_pansOn_25 : decode cX8_pansOn 25 = .ok (.iaload, 1) := by decide +kernel
theorem dX8_pansOn_26 : decode cX8_pansOn 26 = .ok (.iconst 1, 1) := by decide +kernel
theorem dX8_pansOn_27 : decode cX8_pansOn 27 = .ok (.if_icmp .ne 9, 3) := by decide +kernel
theorem dX8_pansOn_30 : decode cX8_pansOn 30 = .ok (.iload_n 1, 1) := by decide +kernel
theorem dX8_pansOn_31 : decode cX8_pansOn 31 = .ok (.iconst 1, 1) := by decide +kernel
theorem dX8_pansOn_32 : decode cX8_pansOn 32 = .ok (.iload_n 2, 1) := by decide +kernel
theorem dX8_pansOn_33 : decode cX8_pansOn 33 = .ok (.ishl, 1) := by decide +kernel
theorem dX8_pansOn_34 : decode cX8_pansOn 34 = .ok (.ior, 1) := by decide +kernel
theorem dX8_pansOn_35 : decode cX8_pansOn 35 = .ok (.istore_n 1, 1) := by decide +kernel
theorem dX8_pansOn_36 : decode cX8_pansOn 36 = .ok (.iinc 2 1, 3) := by decide +kernel
theorem dX8_pansOn_39 : decode cX8_pansOn 39 = .ok (.goto (-35), 3) := by decide +kernel
theorem dX8_pansOn_42 : decode cX8_pansOn 42 = .ok (.iload_n 1, 1) := by decide +kernel
theorem dX8_pansOn_43 : decode cX8_pansOn 43 = .ok (.ireturn, 1) := by decide +kernel
theorem dX8_isResting_0 : decode cX8_isResting 0 = .ok (.iconst 0, 1) := by decide +kernel
theorem dX8_isResting_1 : decode cX8_isResting 1 = .ok (.istore_n 3, 1) := by decide +kernel
theorem dX8_isResting_2 : decode cX8_isResting 2 = .ok (.iload_n 3, 1) := by decide +kernel
theorem dX8_isResting_3 : decode cX8_isResting 3 = .ok (.aload_n 0, 1) := by decide +kernel
theorem dX8_isResting_4 : decode cX8_isResting 4 = .ok (.getfield 52, 3) := by decide +kernel
theorem dX8_isResting_7 : decode cX8_isResting 7 = .ok (.aload_n 0, 1) := by decide +kernel
theorem dX8_isResting_8 : decode cX8_isResting 8 = .ok (.getfield 230, 3) := by decide +kernel
theorem dX8_isResting_11 : decode cX8_isResting 11 = .ok (.iaload, 1) := by decide +kernel
theorem dX8_isResting_12 : decode cX8_isResting 12 = .ok (.if_icmp .ge 49, 3) := by decide +kernel
theorem dX8_isResting_15 : decode cX8_isResting 15 = .ok (.iload_n 2, 1) := by decide +kernel
theorem dX8_isResting_16 : decode cX8_isResting 16 = .ok (.iload_n 3, 1) := by decide +kernel
theorem dX8_isResting_17 : decode cX8_isResting 17 = .ok (.ishr, 1) := by decide +kernel
theorem dX8_isResting_18 : decode cX8_isResting 18 = .ok (.iconst 1, 1) := by decide +kernel
theorem dX8_isResting_19 : decode cX8_isResting 19 = .ok (.iand, 1) := by decide +kernel
theorem dX8_isResting_20 : decode cX8_isResting 20 = .ok (.iconst 1, 1) := by decide +kernel
theorem dX8_isResting_21 : decode cX8_isResting 21 = .ok (.if_icmp .ne 34, 3) := by decide +kernel
theorem dX8_isResting_24 : decode cX8_isResting 24 = .ok (.aload_n 0, 1) := by decide +kernel
theorem dX8_isResting_25 : decode cX8_isResting 25 = .ok (.getfield 131, 3) := by decide +kernel
theorem dX8_isResting_28 : decode cX8_isResting 28 = .ok (.bipush 6, 2) := by decide +kernel
theorem dX8_isResting_30 : decode cX8_isResting 30 = .ok (.iload_n 1, 1) := by decide +kernel
theorem dX8_isResting_31 : decode cX8_isResting 31 = .ok (.iconst 1, 1) := by decide +kernel
theorem dX8_isResting_32 : decode cX8_isResting 32 = .ok (.iload_n 3, 1) := by decide +kernel
theorem dX8_isResting_33 : decode cX8_isResting 33 = .ok (.ishl, 1) := by decide +kernel
theorem dX8_isResting_34 : decode cX8_isResting 34 = .ok (.ixor, 1) := by decide +kernel
theorem dX8_isResting_35 : decode cX8_isResting 35 = .ok (.imul, 1) := by decide +kernel
theorem dX8_isResting_36 : decode cX8_isResting 36 = .ok (.iload_n 3, 1) := by decide +kernel
theorem dX8_isResting_37 : decode cX8_isResting 37 = .ok (.iadd, 1) := by decide +kernel
theorem dX8_isResting_38 : decode cX8_isResting 38 = .ok (.iaload, 1) := by decide +kernel
theorem dX8_isResting_39 : decode cX8_isResting 39 = .ok (.aload_n 0, 1) := by decide +kernel
theorem dX8_isResting_40 : decode cX8_isResting 40 = .ok (.getfield 131, 3) := by decide +kernel
theorem dX8_isResting_43 : decode cX8_isResting 43 = .ok (.bipush 6, 2) := by decide +kernel
theorem dX8_isResting_45 : decode cX8_isResting 45 = .ok (.iload_n 1, 1) := by decide +kernel
theorem dX8_isResting_46 : decode cX8_isResting 46 = .ok (.imul, 1) := by decide +kernel
theorem dX8_isResting_47 : decode cX8_isResting 47 = .ok (.iload_n 3, 1) := by decide +kernel
theorem dX8_isResting_48 : decode cX8_isResting 48 = .ok (.iadd, 1) := by decide +kernel
theorem dX8_isResting_49 : decode cX8_isResting 49 = .ok (.iaload, 1) := by decide +kernel
theorem dX8_isResting_50 : decode cX8_isResting 50 = .ok (.if_icmp .le 5, 3) := by decide +kernel
theorem dX8_isResting_53 : decode cX8_isResting 53 = .ok (.iconst 0, 1) := by decide +kernel
theorem dX8_isResting_54 : decode cX8_isResting 54 = .ok (.ireturn, 1) := by decide +kernel
theorem dX8_isResting_55 : decode cX8_isResting 55 = .ok (.iinc 3 1, 3) := by decide +kernel
theorem dX8_isResting_58 : decode cX8_isResting 58 = .ok (.goto (-56), 3) := by decide +kernel
theorem dX8_isResting_61 : decode cX8_isResting 61 = .ok (.iconst 1, 1) := by decide +kernel
theorem dX8_isResting_62 : decode cX8_isResting 62 = .ok (.ireturn, 1) := by decide +kernel
theorem dX8_out_0 : decode cX8_out 0 = .ok (.iload_n 1, 1) := by decide +kernel
theorem dX8_out_1 : decode cX8_out 1 = .ok (.iconst 1, 1) := by decide +kernel
theorem dX8_out_2 : decode cX8_out 2 = .ok (.bipush 24, 2) := by decide +kernel
theorem dX8_out_4 : decode cX8_out 4 = .ok (.invokestatic 303, 3) := by decide +kernel
theorem dX8_out_7 : decode cX8_out 7 = .ok (.ifCond .eq 8, 3) := by decide +kernel
theorem dX8_out_10 : decode cX8_out 10 = .ok (.iload_n 2, 1) := by decide +kernel
theorem dX8_out_11 : decode cX8_out 11 = .ok (.iconst (-1), 1) := by decide +kernel
theorem dX8_out_12 : decode cX8_out 12 = .ok (.if_icmp .ge 5, 3) := by decide +kernel
theorem dX8_out_15 : decode cX8_out 15 = .ok (.iconst (-1), 1) := by decide +kernel
theorem dX8_out_16 : decode cX8_out 16 = .ok (.ireturn, 1) := by decide +kernel
theorem dX8_out_17 : decode cX8_out 17 = .ok (.aload_n 0, 1) := by decide +kernel
theorem dX8_out_18 : decode cX8_out 18 = .ok (.invokevirtual 446, 3) := by decide +kernel
theorem dX8_out_21 : decode cX8_out 21 = .ok (.istore_n 3, 1) := by decide +kernel
theorem dX8_out_22 : decode cX8_out 22 = .ok (.iconst 0, 1) := by decide +kernel
theorem dX8_out_23 : decode cX8_out 23 = .ok (.istore 4, 2) := by decide +kernel
theorem dX8_out_25 : decode cX8_out 25 = .ok (.iload 4, 2) := by decide +kernel
theorem dX8_out_27 : decode cX8_out 27 = .ok (.bipush 64, 2) := by decide +kernel
theorem dX8_out_29 : decode cX8_out 29 = .ok (.if_icmp .ge 25, 3) := by decide +kernel
theorem dX8_out_32 : decode cX8_out 32 = .ok (.iload 4, 2) := by decide +kernel
theorem dX8_out_34 : decode cX8_out 34 = .ok (.iload_n 3, 1) := by decide +kernel
theorem dX8_out_35 : decode cX8_out 35 = .ok (.iconst (-1), 1) := by decide +kernel
theorem dX8_out_36 : decode cX8_out 36 = .ok (.ixor, 1) := by decide +kernel
theorem dX8_out_37 : decode cX8_out 37 = .ok (.iand, 1) := by decide +kernel
theorem dX8_out_38 : decode cX8_out 38 = .ok (.ifCond .ne 10, 3) := by decide +kernel
theorem dX8_out_41 : decode cX8_out 41 = .ok (.aload_n 0, 1) := by decide +kernel
theorem dX8_out_42 : decode cX8_out 42 = .ok (.iload 4, 2) := by decide +kernel
theorem dX8_out_44 : decode cX8_out 44 = .ok (.iload_n 1, 1) := by decide +kernel
theorem dX8_out_45 : decode cX8_out 45 = .ok (.invokevirtual 449, 3) := by decide +kernel
theorem dX8_out_48 : decode cX8_out 48 = .ok (.iinc 4 1, 3) := by decide +kernel
theorem dX8_out_51 : decode cX8_out 51 = .ok (.goto (-26), 3) := by decide +kernel
theorem dX8_out_54 : decode cX8_out 54 = .ok (.iconst 0, 1) := by decide +kernel
theorem dX8_out_55 : decode cX8_out 55 = .ok (.istore 4, 2) := by decide +kernel
theorem dX8_out_57 : decode cX8_out 57 = .ok (.iconst 0, 1) := by decide +kernel
theorem dX8_out_58 : decode cX8_out 58 = .ok (.istore 5, 2) := by decide +kernel
theorem dX8_out_60 : decode cX8_out 60 = .ok (.iload 5, 2) := by decide +kernel
theorem dX8_out_62 : decode cX8_out 62 = .ok (.bipush 64, 2) := by decide +kernel
theorem dX8_out_64 : decode cX8_out 64 = .ok (.if_icmp .ge 43, 3) := by decide +kernel
theorem dX8_out_67 : decode cX8_out 67 = .ok (.iload 5, 2) := by decide +kernel
theorem dX8_out_69 : decode cX8_out 69 = .ok (.iload_n 3, 1) := by decide +kernel
theorem dX8_out_70 : decode cX8_out 70 = .ok (.iconst (-1), 1) := by decide +kernel
theorem dX8_out_71 : decode cX8_out 71 = .ok (.ixor, 1) := by decide +kernel
theorem dX8_out_72 : decode cX8_out 72 = .ok (.iand, 1) := by decide +kernel
theorem dX8_out_73 : decode cX8_out 73 = .ok (.ifCond .ne 28, 3) := by decide +kernel
theorem dX8_out_76 : decode cX8_out 76 = .ok (.aload_n 0, 1) := by decide +kernel
theorem dX8_out_77 : decode cX8_out 77 = .ok (.iload 5, 2) := by decide +kernel
theorem dX8_out_79 : decode cX8_out 79 = .ok (.iload_n 3, 1) := by decide +kernel
theorem dX8_out_80 : decode cX8_out 80 = .ok (.invokevirtual 452, 3) := by decide +kernel
theorem dX8_out_83 : decode cX8_out 83 = .ok (.ifCond .ne 6, 3) := by decide +kernel
theorem dX8_out_86 : decode cX8_out 86 = .ok (.goto 15, 3) := by decide +kernel
theorem dX8_out_89 : decode cX8_out 89 = .ok (.iload 4, 2) := by decide +kernel
theorem dX8_out_91 : decode cX8_out 91 = .ok (.iload_n 2, 1) := by decide +kernel
theorem dX8_out_92 : decode cX8_out 92 = .ok (.if_icmp .ne 6, 3) := by decide +kernel
theorem dX8_out_95 : decode cX8_out 95 = .ok (.iload 5, 2) := by decide +kernel
theorem dX8_out_97 : decode cX8_out 97 = .ok (.ireturn, 1) := by decide +kernel
theorem dX8_out_98 : decode cX8_out 98 = .ok (.iinc 4 1, 3) := by decide +kernel
theorem dX8_out_101 : decode cX8_out 101 = .ok (.iinc 5 1, 3) := by decide +kernel
theorem dX8_out_104 : decode cX8_out 104 = .ok (.goto (-44), 3) := by decide +kernel
theorem dX8_out_107 : decode cX8_out 107 = .ok (.iload_n 2, 1) := by decide +kernel
theorem dX8_out_108 : decode cX8_out 108 = .ok (.iconst (-1), 1) := by decide +kernel
theorem dX8_out_109 : decode cX8_out 109 = .ok (.if_icmp .ne 8, 3) := by decide +kernel
theorem dX8_out_112 : decode cX8_out 112 = .ok (.iload 4, 2) := by decide +kernel
theorem dX8_out_114 : decode cX8_out 114 = .ok (.goto 4, 3) := by decide +kernel
theorem dX8_out_117 : decode cX8_out 117 = .ok (.iconst (-1), 1) := by decide +kernel
theorem dX8_out_118 : decode cX8_out 118 = .ok (.ireturn, 1) := by decide +kernel
theorem dX8_odds_0 : decode cX8_odds 0 = .ok (.aload_n 0, 1) := by decide +kernel
theorem dX8_odds_1 : decode cX8_odds 1 = .ok (.iload_n 1, 1) := by decide +kernel
theorem dX8_odds_2 : decode cX8_odds 2 = .ok (.invokevirtual 394, 3) := by decide +kernel
theorem dX8_odds_5 : decode cX8_odds 5 = .ok (.ifCond .eq 20, 3) := by decide +kernel
theorem dX8_odds_8 : decode cX8_odds 8 = .ok (.iload_n 2, 1) := by decide +kernel
theorem dX8_odds_9 : decode cX8_odds 9 = .ok (.invokestatic 409, 3) := by decide +kernel
theorem dX8_odds_12 : decode cX8_odds 12 = .ok (.ifCond .eq 13, 3) := by decide +kernel
theorem dX8_odds_15 : decode cX8_odds 15 = .ok (.iload_n 3, 1) := by decide +kernel
theorem dX8_odds_16 : decode cX8_odds 16 = .ok (.iconst 1, 1) := by decide +kernel
theorem dX8_odds_17 : decode cX8_odds 17 = .ok (.bipush 20, 2) := by decide +kernel
theorem dX8_odds_19 : decode cX8_odds 19 = .ok (.invokestatic 303, 3) := by decide +kernel
theorem dX8_odds_22 : decode cX8_odds 22 = .ok (.ifCond .ne 5, 3) := by decide +kernel
theorem dX8_odds_25 : decode cX8_odds 25 = .ok (.iconst (-1), 1) := by decide +kernel
theorem dX8_odds_26 : decode cX8_odds 26 = .ok (.ireturn, 1) := by decide +kernel
theorem dX8_odds_27 : decode cX8_odds 27 = .ok (.iconst 0, 1) := by decide +kernel
theorem dX8_odds_28 : decode cX8_odds 28 = .ok (.istore 4, 2) := by decide +kernel
theorem dX8_odds_30 : decode cX8_odds 30 = .ok (.iconst 0, 1) := by decide +kernel
theorem dX8_odds_31 : decode cX8_odds 31 = .ok (.istore 5, 2) := by decide +kernel
theorem dX8_odds_33 : decode cX8_odds 33 = .ok (.iload 5, 2) := by decide +kernel
theorem dX8_odds_35 : decode cX8_odds 35 = .ok (.iload_n 3, 1) := by decide +kernel
theorem dX8_odds_36 : decode cX8_odds 36 = .ok (.if_icmp .ge 44, 3) := by decide +kernel
theorem dX8_odds_39 : decode cX8_odds 39 = .ok (.aload_n 0, 1) := by decide +kernel
theorem dX8_odds_40 : decode cX8_odds 40 = .ok (.invokevirtual 397, 3) := by decide +kernel
theorem dX8_odds_43 : decode cX8_odds 43 = .ok (.aload_n 0, 1) := by decide +kernel
theorem dX8_odds_44 : decode cX8_odds 44 = .ok (.dup, 1) := by decide +kernel
theorem dX8_odds_45 : decode cX8_odds 45 = .ok (.getfield 313, 3) := by decide +kernel
theorem dX8_odds_48 : decode cX8_odds 48 = .ok (.iload 5, 2) := by decide +kernel
theorem dX8_odds_50 : decode cX8_odds 50 = .ok (.iadd, 1) := by decide +kernel
theorem dX8_odds_51 : decode cX8_odds 51 = .ok (.putfield 313, 3) := by decide +kernel
theorem dX8_odds_54 : decode cX8_odds 54 = .ok (.aload_n 0, 1) := by decide +kernel
theorem dX8_odds_55 : decode cX8_odds 55 = .ok (.iload_n 2, 1) := by decide +kernel
theorem dX8_odds_56 : decode cX8_odds 56 = .ok (.invokevirtual 403, 3) := by decide +kernel
theorem dX8_odds_59 : decode cX8_odds 59 = .ok (.aload_n 0, 1) := by decide +kernel
theorem dX8_odds_60 : decode cX8_odds 60 = .ok (.getfield 113, 3) := by decide +kernel
theorem dX8_odds_63 : decode cX8_odds 63 = .ok (.bipush 12, 2) := by decide +kernel
theorem dX8_odds_65 : decode cX8_odds 65 = .ok (.iload_n 1, 1) := by decide +kernel
theorem dX8_odds_66 : decode cX8_odds 66 = .ok (.iadd, 1) := by decide +kernel
theorem dX8_odds_67 : decode cX8_odds 67 = .ok (.iaload, 1) := by decide +kernel
theorem dX8_odds_68 : decode cX8_odds 68 = .ok (.ifCond .le 6, 3) := by decide +kernel
theorem dX8_odds_71 : decode cX8_odds 71 = .ok (.iinc 4 1, 3) := by decide +kernel
theorem dX8_odds_74 : decode cX8_odds 74 = .ok (.iinc 5 1, 3) := by decide +kernel
theorem dX8_odds_77 : decode cX8_odds 77 = .ok (.goto (-44), 3) := by decide +kernel
theorem dX8_odds_80 : decode cX8_odds 80 = .ok (.iload 4, 2) := by decide +kernel
theorem dX8_odds_82 : decode cX8_odds 82 = .ok (.ireturn, 1) := by decide +kernel
theorem dX8_lost_0 : decode cX8_lost 0 = .ok (.iload_n 1, 1) := by decide +kernel
theorem dX8_lost_1 : decode cX8_lost 1 = .ok (.iconst 0, 1) := by decide +kernel
theorem dX8_lost_2 : decode cX8_lost 2 = .ok (.iconst 1, 1) := by decide +kernel
theorem dX8_lost_3 : decode cX8_lost 3 = .ok (.invokestatic 303, 3) := by decide +kernel
theorem dX8_lost_6 : decode cX8_lost 6 = .ok (.ifCond .ne 5, 3) := by decide +kernel
theorem dX8_lost_9 : decode cX8_lost 9 = .ok (.iconst (-1), 1) := by decide +kernel
theorem dX8_lost_10 : decode cX8_lost 10 = .ok (.ireturn, 1) := by decide +kernel
theorem dX8_lost_11 : decode cX8_lost 11 = .ok (.aload_n 0, 1) := by decide +kernel
theorem dX8_lost_12 : decode cX8_lost 12 = .ok (.invokevirtual 397, 3) := by decide +kernel
theorem dX8_lost_15 : decode cX8_lost 15 = .ok (.aload_n 0, 1) := by decide +kernel
theorem dX8_lost_16 : decode cX8_lost 16 = .ok (.invokevirtual 412, 3) := by decide +kernel
theorem dX8_lost_19 : decode cX8_lost 19 = .ok (.istore_n 2, 1) := by decide +kernel
theorem dX8_lost_20 : decode cX8_lost 20 = .ok (.iconst 1, 1) := by decide +kernel
theorem dX8_lost_21 : decode cX8_lost 21 = .ok (.istore_n 3, 1) := by decide +kernel
theorem dX8_lost_22 : decode cX8_lost 22 = .ok (.iload_n 3, 1) := by decide +kernel
theorem dX8_lost_23 : decode cX8_lost 23 = .ok (.bipush 100, 2) := by decide +kernel
theorem dX8_lost_25 : decode cX8_lost 25 = .ok (.if_icmp .gt 65, 3) := by decide +kernel
theorem dX8_lost_28 : decode cX8_lost 28 = .ok (.aload_n 0, 1) := by decide +kernel
theorem dX8_lost_29 : decode cX8_lost 29 = .ok (.invokevirtual 382, 3) := by decide +kernel
theorem dX8_lost_32 : decode cX8_lost 32 = .ok (.iconst 0, 1) := by decide +kernel
theorem dX8_lost_33 : decode cX8_lost 33 = .ok (.istore 4, 2) := by decide +kernel
theorem dX8_lost_35 : decode cX8_lost 35 = .ok (.iload 4, 2) := by decide +kernel
theorem dX8_lost_37 : decode cX8_lost 37 = .ok (.aload_n 0, 1) := by decide +kernel
theorem dX8_lost_38 : decode cX8_lost 38 = .ok (.getfield 52, 3) := by decide +kernel
theorem dX8_lost_41 : decode cX8_lost 41 = .ok (.aload_n 0, 1) := by decide +kernel
theorem dX8_lost_42 : decode cX8_lost 42 = .ok (.getfield 230, 3) := by decide +kernel
theorem dX8_lost_45 : decode cX8_lost 45 = .ok (.iaload, 1) := by decide +kernel
theorem dX8_lost_46 : decode cX8_lost 46 = .ok (.if_icmp .ge 38, 3) := by decide +kernel
theorem dX8_lost_49 : decode cX8_lost 49 = .ok (.aload_n 0, 1) := by decide +kernel
theorem dX8_lost_50 : decode cX8_lost 50 = .ok (.iload 4, 2) := by decide +kernel
theorem dX8_lost_52 : decode cX8_lost 52 = .ok (.invokevirtual 385, 3) := by decide +kernel
theorem dX8_lost_55 : decode cX8_lost 55 = .ok (.ifCond .eq 23, 3) := by decide +kernel
theorem dX8_lost_58 : decode cX8_lost 58 = .ok (.iload_n 2, 1) := by decide +kernel
theorem dX8_lost_59 : decode cX8_lost 59 = .ok (.iload 4, 2) := by decide +kernel
theorem dX8_lost_61 : decode cX8_lost 61 = .ok (.ishr, 1) := by decide +kernel
theorem dX8_lost_62 : decode cX8_lost 62 = .ok (.iconst 1, 1) := by decide +kernel
theorem dX8_lost_63 : decode cX8_lost 63 = .ok (.iand, 1) := by decide +kernel
theorem dX8_lost_64 : decode cX8_lost 64 = .ok (.ifCond .ne 14, 3) := by decide +kernel
theorem dX8_lost_67 : decode cX8_lost 67 = .ok (.iload_n 1, 1) := by decide +kernel
theorem dX8_lost_68 : decode cX8_lost 68 = .ok (.ifCond .ne 8, 3) := by decide +kernel
theorem dX8_lost_71 : decode cX8_lost 71 = .ok (.iload 4, 2) := by decide +kernel
theorem dX8_lost_73 : decode cX8_lost 73 = .ok (.goto 4, 3) := by decide +kernel
theorem dX8_lost_76 : decode cX8_lost 76 = .ok (.iload_n 3, 1) := by decide +kernel
theorem dX8_lost_77 : decode cX8_lost 77 = .ok (.ireturn, 1) := by decide +kernel
theorem dX8_lost_78 : decode cX8_lost 78 = .ok (.iinc 4 1, 3) := by decide +kernel
theorem dX8_lost_81 : decode cX8_lost 81 = .ok (.goto (-46), 3) := by decide +kernel
theorem dX8_lost_84 : decode cX8_lost 84 = .ok (.iinc 3 1, 3) := by decide +kernel
theorem dX8_lost_87 : decode cX8_lost 87 = .ok (.goto (-65), 3) := by decide +kernel
theorem dX8_lost_90 : decode cX8_lost 90 = .ok (.bipush (-2), 2) := by decide +kernel
theorem dX8_lost_92 : decode cX8_lost 92 = .ok (.ireturn, 1) := by decide +kernel
theorem dX8_tell_0 : decode cX8_tell 0 = .ok (.aload_n 0, 1) := by decide +kernel
theorem dX8_tell_1 : decode cX8_tell 1 = .ok (.getfield 258, 3) := by decide +kernel
theorem dX8_tell_4 : decode cX8_tell 4 = .ok (.bipush 20, 2) := by decide +kernel
theorem dX8_tell_6 : decode cX8_tell 6 = .ok (.if_icmp .eq 19, 3) := by decide +kernel
theorem dX8_tell_9 : decode cX8_tell 9 = .ok (.aload_n 0, 1) := by decide +kernel
theorem dX8_tell_10 : decode cX8_tell 10 = .ok (.iload_n 1, 1) := by decide +kernel
theorem dX8_tell_11 : decode cX8_tell 11 = .ok (.invokevirtual 394, 3) := by decide +kernel
theorem dX8_tell_14 : decode cX8_tell 14 = .ok (.ifCond .eq 11, 3) := by decide +kernel
theorem dX8_tell_17 : decode cX8_tell 17 = .ok (.aload_n 0, 1) := by decide +kernel
theorem dX8_tell_18 : decode cX8_tell 18 = .ok (.iload_n 2, 1) := by decide +kernel
theorem dX8_tell_19 : decode cX8_tell 19 = .ok (.invokevirtual 394, 3) := by decide +kernel
theorem dX8_tell_22 : decode cX8_tell 22 = .ok (.ifCond .ne 5, 3) := by decide +kernel
theorem dX8_tell_25 : decode cX8_tell 25 = .ok (.iconst (-1), 1) := by decide +kernel
theorem dX8_tell_26 : decode cX8_tell 26 = .ok (.ireturn, 1) := by decide +kernel
theorem dX8_tell_27 : decode cX8_tell 27 = .ok (.aload_n 0, 1) := by decide +kernel
theorem dX8_tell_28 : decode cX8_tell 28 = .ok (.invokevirtual 397, 3) := by decide +kernel
theorem dX8_tell_31 : decode cX8_tell 31 = .ok (.aload_n 0, 1) := by decide +kernel
theorem dX8_tell_32 : decode cX8_tell 32 = .ok (.getfield 134, 3) := by decide +kernel
theorem dX8_tell_35 : decode cX8_tell 35 = .ok (.aload_n 0, 1) := by decide +kernel
theorem dX8_tell_36 : decode cX8_tell 36 = .ok (.getfield 258, 3) := by decide +kernel
theorem dX8_tell_39 : decode cX8_tell 39 = .ok (.aload_n 0, 1) := by decide +kernel
theorem dX8_tell_40 : decode cX8_tell 40 = .ok (.iload_n 1, 1) := by decide +kernel
theorem dX8_tell_41 : decode cX8_tell 41 = .ok (.invokevirtual 370, 3) := by decide +kernel
theorem dX8_tell_44 : decode cX8_tell 44 = .ok (.iastore, 1) := by decide +kernel
theorem dX8_tell_45 : decode cX8_tell 45 = .ok (.aload_n 0, 1) := by decide +kernel
theorem dX8_tell_46 : decode cX8_tell 46 = .ok (.getfield 137, 3) := by decide +kernel
theorem dX8_tell_49 : decode cX8_tell 49 = .ok (.aload_n 0, 1) := by decide +kernel
theorem dX8_tell_50 : decode cX8_tell 50 = .ok (.getfield 258, 3) := by decide +kernel
theorem dX8_tell_53 : decode cX8_tell 53 = .ok (.iload_n 2, 1) := by decide +kernel
theorem dX8_tell_54 : decode cX8_tell 54 = .ok (.iastore, 1) := by decide +kernel
theorem dX8_tell_55 : decode cX8_tell 55 = .ok (.aload_n 0, 1) := by decide +kernel
theorem dX8_tell_56 : decode cX8_tell 56 = .ok (.dup, 1) := by decide +kernel
theorem dX8_tell_57 : decode cX8_tell 57 = .ok (.getfield 258, 3) := by decide +kernel
theorem dX8_tell_60 : decode cX8_tell 60 = .ok (.iconst 1, 1) := by decide +kernel
theorem dX8_tell_61 : decode cX8_tell 61 = .ok (.iadd, 1) := by decide +kernel
theorem dX8_tell_62 : decode cX8_tell 62 = .ok (.putfield 258, 3) := by decide +kernel
theorem dX8_tell_65 : decode cX8_tell 65 = .ok (.aload_n 0, 1) := by decide +kernel
theorem dX8_tell_66 : decode cX8_tell 66 = .ok (.getfield 258, 3) := by decide +kernel
theorem dX8_tell_69 : decode cX8_tell 69 = .ok (.iconst 1, 1) := by decide +kernel
theorem dX8_tell_70 : decode cX8_tell 70 = .ok (.isub, 1) := by decide +kernel
theorem dX8_tell_71 : decode cX8_tell 71 = .ok (.ireturn, 1) := by decide +kernel
theorem dX8_forget_0 : decode cX8_forget 0 = .ok (.aload_n 0, 1) := by decide +kernel
theorem dX8_forget_1 : decode cX8_forget 1 = .ok (.getfield 258, 3) := by decide +kernel
theorem dX8_forget_4 : decode cX8_forget 4 = .ok (.istore_n 1, 1) := by decide +kernel
theorem dX8_forget_5 : decode cX8_forget 5 = .ok (.aload_n 0, 1) := by decide +kernel
theorem dX8_forget_6 : decode cX8_forget 6 = .ok (.iconst 0, 1) := by decide +kernel
theorem dX8_forget_7 : decode cX8_forget 7 = .ok (.putfield 258, 3) := by decide +kernel
theorem dX8_forget_10 : decode cX8_forget 10 = .ok (.iload_n 1, 1) := by decide +kernel
theorem dX8_forget_11 : decode cX8_forget 11 = .ok (.ireturn, 1) := by decide +kernel
theorem dX8_fillsMayBe_0 : decode cX8_fillsMayBe 0 = .ok (.iconst 0, 1) := by decide +kernel
theorem dX8_fillsMayBe_1 : decode cX8_fillsMayBe 1 = .ok (.istore_n 2, 1) := by decide +kernel
theorem dX8_fillsMayBe_2 : decode cX8_fillsMayBe 2 = .ok (.iload_n 2, 1) := by decide +kernel
theorem dX8_fillsMayBe_3 : decode cX8_fillsMayBe 3 = .ok (.bipush 6, 2) := by decide +kernel
theorem dX8_fillsMayBe_5 : decode cX8_fillsMayBe 5 = .ok (.if_icmp .ge 28, 3) := by decide +kernel
theorem dX8_fillsMayBe_8 : decode cX8_fillsMayBe 8 = .ok (.aload_n 0, 1) := by decide +kernel
theorem dX8_fillsMayBe_9 : decode cX8_fillsMayBe 9 = .ok (.getfield 140, 3) := by decide +kernel
theorem dX8_fillsMayBe_12 : decode cX8_fillsMayBe 12 = .ok (.iload_n 2, 1) := by decide +kernel
theorem dX8_fillsMayBe_13 : decode cX8_fillsMayBe 13 = .ok (.iconst 1, 1) := by decide +kernel
theorem dX8_fillsMayBe_14 : decode cX8_fillsMayBe 14 = .ok (.aload_n 0, 1) := by decide +kernel
theorem dX8_fillsMayBe_15 : decode cX8_fillsMayBe 15 = .ok (.getfield 52, 3) := by decide +kernel
theorem dX8_fillsMayBe_18 : decode cX8_fillsMayBe 18 = .ok (.aload_n 0, 1) := by decide +kernel
theorem dX8_fillsMayBe_19 : decode cX8_fillsMayBe 19 = .ok (.getfield 230, 3) := by decide +kernel
theorem dX8_fillsMayBe_22 : decode cX8_fillsMayBe 22 = .ok (.iaload, 1) := by decide +kernel
theorem dX8_fillsMayBe_23 : decode cX8_fillsMayBe 23 = .ok (.ishl, 1) := by decide +kernel
theorem dX8_fillsMayBe_24 : decode cX8_fillsMayBe 24 = .ok (.iconst 1, 1) := by decide +kernel
theorem dX8_fillsMayBe_25 : decode cX8_fillsMayBe 25 = .ok (.isub, 1) := by decide +kernel
theorem dX8_fillsMayBe_26 : decode cX8_fillsMayBe 26 = .ok (.iastore, 1) := by decide +kernel
theorem dX8_fillsMayBe_27 : decode cX8_fillsMayBe 27 = .ok (.iinc 2 1, 3) := by decide +kernel
theorem dX8_fillsMayBe_30 : decode cX8_fillsMayBe 30 = .ok (.goto (-28), 3) := by decide +kernel
theorem dX8_fillsMayBe_33 : decode cX8_fillsMayBe 33 = .ok (.iconst 0, 1) := by decide +kernel
theorem dX8_fillsMayBe_34 : decode cX8_fillsMayBe 34 = .ok (.istore_n 2, 1) := by decide +kernel
theorem dX8_fillsMayBe_35 : decode cX8_fillsMayBe 35 = .ok (.iload_n 2, 1) := by decide +kernel
theorem dX8_fillsMayBe_36 : decode cX8_fillsMayBe 36 = .ok (.iload_n 1, 1) := by decide +kernel
theorem dX8_fillsMayBe_37 : decode cX8_fillsMayBe 37 = .ok (.if_icmp .ge 29, 3) := by decide +kernel
theorem dX8_fillsMayBe_40 : decode cX8_fillsMayBe 40 = .ok (.aload_n 0, 1) := by decide +kernel
theorem dX8_fillsMayBe_41 : decode cX8_fillsMayBe 41 = .ok (.getfield 140, 3) := by decide +kernel
theorem dX8_fillsMayBe_44 : decode cX8_fillsMayBe 44 = .ok (.aload_n 0, 1) := by decide +kernel
theorem dX8_fillsMayBe_45 : decode cX8_fillsMayBe 45 = .ok (.getfield 137, 3) := by decide +kernel
theorem dX8_fillsMayBe_48 : decode cX8_fillsMayBe 48 = .ok (.iload_n 2, 1) := by decide +kernel
theorem dX8_fillsMayBe_49 : decode cX8_fillsMayBe 49 = .ok (.iaload, 1) := by decide +kernel
theorem dX8_fillsMayBe_50 : decode cX8_fillsMayBe 50 = .ok (.dup2, 1) := by decide +kernel
theorem dX8_fillsMayBe_51 : decode cX8_fillsMayBe 51 = .ok (.iaload, 1) := by decide +kernel
theorem dX8_fillsMayBe_52 : decode cX8_fillsMayBe 52 = .ok (.aload_n 0, 1) := by decide +kernel
theorem dX8_fillsMayBe_53 : decode cX8_fillsMayBe 53 = .ok (.getfield 134, 3) := by decide +kernel
theorem dX8_fillsMayBe_56 : decode cX8_fillsMayBe 56 = .ok (.iload_n 2, 1) := by decide +kernel
theorem dX8_fillsMayBe_57 : decode cX8_fillsMayBe 57 = .ok (.iaload, 1) := by decide +kernel
theorem dX8_fillsMayBe_58 : decode cX8_fillsMayBe 58 = .ok (.iand, 1) := by decide +kernel
theorem dX8_fillsMayBe_59 : decode cX8_fillsMayBe 59 = .ok (.iastore, 1) := by decide +kernel
theorem dX8_fillsMayBe_60 : decode cX8_fillsMayBe 60 = .ok (.iinc 2 1, 3) := by decide +kernel
theorem dX8_fillsMayBe_63 : decode cX8_fillsMayBe 63 = .ok (.goto (-28), 3) := by decide +kernel
theorem dX8_fillsMayBe_66 : decode cX8_fillsMayBe 66 = .ok (.return_, 1) := by decide +kernel
theorem dX8_sixes_0 : decode cX8_sixes 0 = .ok (.iconst 1, 1) := by decide +kernel
theorem dX8_sixes_1 : decode cX8_sixes 1 = .ok (.istore_n 1, 1) := by decide +kernel
theorem dX8_sixes_2 : decode cX8_sixes 2 = .ok (.iconst 0, 1) := by decide +kernel
theorem dX8_sixes_3 : decode cX8_sixes 3 = .ok (.istore_n 2, 1) := by decide +kernel
theorem dX8_sixes_4 : decode cX8_sixes 4 = .ok (.iload_n 2, 1) := by decide +kernel
theorem dX8_sixes_5 : decode cX8_sixes 5 = .ok (.iload_n 0, 1) := by decide +kernel
theorem dX8_sixes_6 : decode cX8_sixes 6 = .ok (.if_icmp .ge 14, 3) := by decide +kernel
theorem dX8_sixes_9 : decode cX8_sixes 9 = .ok (.iload_n 1, 1) := by decide +kernel
theorem dX8_sixes_10 : decode cX8_sixes 10 = .ok (.bipush 6, 2) := by decide +kernel
theorem dX8_sixes_12 : decode cX8_sixes 12 = .ok (.imul, 1) := by decide +kernel
theorem dX8_sixes_13 : decode cX8_sixes 13 = .ok (.istore_n 1, 1) := by decide +kernel
theorem dX8_sixes_14 : decode cX8_sixes 14 = .ok (.iinc 2 1, 3) := by decide +kernel
theorem dX8_sixes_17 : decode cX8_sixes 17 = .ok (.goto (-13), 3) := by decide +kernel
theorem dX8_sixes_20 : decode cX8_sixes 20 = .ok (.iload_n 1, 1) := by decide +kernel
theorem dX8_sixes_21 : decode cX8_sixes 21 = .ok (.ireturn, 1) := by decide +kernel
theorem dX8_isWay_0 : decode cX8_isWay 0 = .ok (.iconst 0, 1) := by decide +kernel
theorem dX8_isWay_1 : decode cX8_isWay 1 = .ok (.istore_n 2, 1) := by decide +kernel
theorem dX8_isWay_2 : decode cX8_isWay 2 = .ok (.iload_n 1, 1) := by decide +kernel
theorem dX8_isWay_3 : decode cX8_isWay 3 = .ok (.istore_n 3, 1) := by decide +kernel
theorem dX8_isWay_4 : decode cX8_isWay 4 = .ok (.aload_n 0, 1) := by decide +kernel
theorem dX8_isWay_5 : decode cX8_isWay 5 = .ok (.getfield 52, 3) := by decide +kernel
theorem dX8_isWay_8 : decode cX8_isWay 8 = .ok (.aload_n 0, 1) := by decide +kernel
theorem dX8_isWay_9 : decode cX8_isWay 9 = .ok (.getfield 230, 3) := by decide +kernel
theorem dX8_isWay_12 : decode cX8_isWay 12 = .ok (.iaload, 1) := by decide +kernel
theorem dX8_isWay_13 : decode cX8_isWay 13 = .ok (.iconst 1, 1) := by decide +kernel
theorem dX8_isWay_14 : decode cX8_isWay 14 = .ok (.isub, 1) := by decide +kernel
theorem dX8_isWay_15 : decode cX8_isWay 15 = .ok (.istore 4, 2) := by decide +kernel
theorem dX8_isWay_17 : decode cX8_isWay 17 = .ok (.iload 4, 2) := by decide +kernel
theorem dX8_isWay_19 : decode cX8_isWay 19 = .ok (.ifCond .lt 54, 3) := by decide +kernel
theorem dX8_isWay_22 : decode cX8_isWay 22 = .ok (.iload_n 3, 1) := by decide +kernel
theorem dX8_isWay_23 : decode cX8_isWay 23 = .ok (.bipush 6, 2) := by decide +kernel
theorem dX8_isWay_25 : decode cX8_isWay 25 = .ok (.irem, 1) := by decide +kernel
theorem dX8_isWay_26 : decode cX8_isWay 26 = .ok (.istore 5, 2) := by decide +kernel
theorem dX8_isWay_28 : decode cX8_isWay 28 = .ok (.iload_n 3, 1) := by decide +kernel
theorem dX8_isWay_29 : decode cX8_isWay 29 = .ok (.bipush 6, 2) := by decide +kernel
theorem dX8_isWay_31 : decode cX8_isWay 31 = .ok (.idiv, 1) := by decide +kernel
theorem dX8_isWay_32 : decode cX8_isWay 32 = .ok (.istore_n 3, 1) := by decide +kernel
theorem dX8_isWay_33 : decode cX8_isWay 33 = .ok (.aload_n 0, 1) := by decide +kernel
theorem dX8_isWay_34 : decode cX8_isWay 34 = .ok (.getfield 140, 3) := by decide +kernel
theorem dX8_isWay_37 : decode cX8_isWay 37 = .ok (.iload 4, 2) := by decide +kernel
theorem dX8_isWay_39 : decode cX8_isWay 39 = .ok (.iaload, 1) := by decide +kernel
theorem dX8_isWay_40 : decode cX8_isWay 40 = .ok (.iload 5, 2) := by decide +kernel
theorem dX8_isWay_42 : decode cX8_isWay 42 = .ok (.ishr, 1) := by decide +kernel
theorem dX8_isWay_43 : decode cX8_isWay 43 = .ok (.iconst 1, 1) := by decide +kernel
theorem dX8_isWay_44 : decode cX8_isWay 44 = .ok (.iand, 1) := by decide +kernel
theorem dX8_isWay_45 : decode cX8_isWay 45 = .ok (.ifCond .eq 13, 3) := by decide +kernel
theorem dX8_isWay_48 : decode cX8_isWay 48 = .ok (.iload_n 2, 1) := by decide +kernel
theorem dX8_isWay_49 : decode cX8_isWay 49 = .ok (.iload 5, 2) := by decide +kernel
theorem dX8_isWay_51 : decode cX8_isWay 51 = .ok (.ishr, 1) := by decide +kernel
theorem dX8_isWay_52 : decode cX8_isWay 52 = .ok (.iconst 1, 1) := by decide +kernel
theorem dX8_isWay_53 : decode cX8_isWay 53 = .ok (.iand, 1) := by decide +kernel
theorem dX8_isWay_54 : decode cX8_isWay 54 = .ok (.iconst 1, 1) := by decide +kernel
theorem dX8_isWay_55 : decode cX8_isWay 55 = .ok (.if_icmp .ne 5, 3) := by decide +kernel
theorem dX8_isWay_58 : decode cX8_isWay 58 = .ok (.iconst 0, 1) := by decide +kernel
theorem dX8_isWay_59 : decode cX8_isWay 59 = .ok (.ireturn, 1) := by decide +kernel
theorem dX8_isWay_60 : decode cX8_isWay 60 = .ok (.iload_n 2, 1) := by decide +kernel
theorem dX8_isWay_61 : decode cX8_isWay 61 = .ok (.iconst 1, 1) := by decide +kernel
theorem dX8_isWay_62 : decode cX8_isWay 62 = .ok (.iload 5, 2) := by decide +kernel
theorem dX8_isWay_64 : decode cX8_isWay 64 = .ok (.ishl, 1) := by decide +kernel
theorem dX8_isWay_65 : decode cX8_isWay 65 = .ok (.ior, 1) := by decide +kernel
theorem dX8_isWay_66 : decode cX8_isWay 66 = .ok (.istore_n 2, 1) := by decide +kernel
theorem dX8_isWay_67 : decode cX8_isWay 67 = .ok (.iinc 4 (-1), 3) := by decide +kernel
theorem dX8_isWay_70 : decode cX8_isWay 70 = .ok (.goto (-53), 3) := by decide +kernel
theorem dX8_isWay_73 : decode cX8_isWay 73 = .ok (.iconst 1, 1) := by decide +kernel
theorem dX8_isWay_74 : decode cX8_isWay 74 = .ok (.ireturn, 1) := by decide +kernel
theorem dX8_fried_0 : decode cX8_fried 0 = .ok (.iload_n 1, 1) := by decide +kernel
theorem dX8_fried_1 : decode cX8_fried 1 = .ok (.iconst 0, 1) := by decide +kernel
theorem dX8_fried_2 : decode cX8_fried 2 = .ok (.aload_n 0, 1) := by decide +kernel
theorem dX8_fried_3 : decode cX8_fried 3 = .ok (.getfield 258, 3) := by decide +kernel
theorem dX8_fried_6 : decode cX8_fried 6 = .ok (.invokestatic 303, 3) := by decide +kernel
theorem dX8_fried_9 : decode cX8_fried 9 = .ok (.ifCond .ne 5, 3) := by decide +kernel
theorem dX8_fried_12 : decode cX8_fried 12 = .ok (.iconst (-1), 1) := by decide +kernel
theorem dX8_fried_13 : decode cX8_fried 13 = .ok (.ireturn, 1) := by decide +kernel
theorem dX8_fried_14 : decode cX8_fried 14 = .ok (.aload_n 0, 1) := by decide +kernel
theorem dX8_fried_15 : decode cX8_fried 15 = .ok (.iload_n 1, 1) := by decide +kernel
theorem dX8_fried_16 : decode cX8_fried 16 = .ok (.invokevirtual 455, 3) := by decide +kernel
theorem dX8_fried_19 : decode cX8_fried 19 = .ok (.iconst 0, 1) := by decide +kernel
theorem dX8_fried_20 : decode cX8_fried 20 = .ok (.istore_n 2, 1) := by decide +kernel
theorem dX8_fried_21 : decode cX8_fried 21 = .ok (.iconst 0, 1) := by decide +kernel
theorem dX8_fried_22 : decode cX8_fried 22 = .ok (.istore_n 3, 1) := by decide +kernel
theorem dX8_fried_23 : decode cX8_fried 23 = .ok (.iload_n 3, 1) := by decide +kernel
theorem dX8_fried_24 : decode cX8_fried 24 = .ok (.aload_n 0, 1) := by decide +kernel
theorem dX8_fried_25 : decode cX8_fried 25 = .ok (.getfield 52, 3) := by decide +kernel
theorem dX8_fried_28 : decode cX8_fried 28 = .ok (.aload_n 0, 1) := by decide +kernel
theorem dX8_fried_29 : decode cX8_fried 29 = .ok (.getfield 230, 3) := by decide +kernel
theorem dX8_fried_32 : decode cX8_fried 32 = .ok (.iaload, 1) := by decide +kernel
theorem dX8_fried_33 : decode cX8_fried 33 = .ok (.invokestatic 458, 3) := by decide +kernel
theorem dX8_fried_36 : decode cX8_fried 36 = .ok (.if_icmp .ge 20, 3) := by decide +kernel
theorem dX8_fried_39 : decode cX8_fried 39 = .ok (.aload_n 0, 1) := by decide +kernel
theorem dX8_fried_40 : decode cX8_fried 40 = .ok (.iload_n 3, 1) := by decide +kernel
theorem dX8_fried_41 : decode cX8_fried 41 = .ok (.invokevirtual 461, 3) := by decide +kernel
theorem dX8_fried_44 : decode cX8_fried 44 = .ok (.ifCond .eq 6, 3) := by decide +kernel
theorem dX8_fried_47 : decode cX8_fried 47 = .ok (.iinc 2 1, 3) := by decide +kernel
theorem dX8_fried_50 : decode cX8_fried 50 = .ok (.iinc 3 1, 3) := by decide +kernel
theorem dX8_fried_53 : decode cX8_fried 53 = .ok (.goto (-30), 3) := by decide +kernel
theorem dX8_fried_56 : decode cX8_fried 56 = .ok (.iload_n 2, 1) := by decide +kernel
theorem dX8_fried_57 : decode cX8_fried 57 = .ok (.ireturn, 1) := by decide +kernel
theorem dX8_sure_0 : decode cX8_sure 0 = .ok (.iload_n 1, 1) := by decide +kernel
theorem dX8_sure_1 : decode cX8_sure 1 = .ok (.iconst 0, 1) := by decide +kernel
theorem dX8_sure_2 : decode cX8_sure 2 = .ok (.aload_n 0, 1) := by decide +kernel
theorem dX8_sure_3 : decode cX8_sure 3 = .ok (.getfield 258, 3) := by decide +kernel
theorem dX8_sure_6 : decode cX8_sure 6 = .ok (.invokestatic 303, 3) := by decide +kernel
theorem dX8_sure_9 : decode cX8_sure 9 = .ok (.ifCond .eq 11, 3) := by decide +kernel
theorem dX8_sure_12 : decode cX8_sure 12 = .ok (.aload_n 0, 1) := by decide +kernel
theorem dX8_sure_13 : decode cX8_sure 13 = .ok (.iload_n 2, 1) := by decide +kernel
theorem dX8_sure_14 : decode cX8_sure 14 = .ok (.invokevirtual 394, 3) := by decide +kernel
theorem dX8_sure_17 : decode cX8_sure 17 = .ok (.ifCond .ne 5, 3) := by decide +kernel
theorem dX8_sure_20 : decode cX8_sure 20 = .ok (.iconst (-1), 1) := by decide +kernel
theorem dX8_sure_21 : decode cX8_sure 21 = .ok (.ireturn, 1) := by decide +kernel
theorem dX8_sure_22 : decode cX8_sure 22 = .ok (.aload_n 0, 1) := by decide +kernel
theorem dX8_sure_23 : decode cX8_sure 23 = .ok (.iload_n 1, 1) := by decide +kernel
theorem dX8_sure_24 : decode cX8_sure 24 = .ok (.invokevirtual 455, 3) := by decide +kernel
theorem dX8_sure_27 : decode cX8_sure 27 = .ok (.bipush (-2), 2) := by decide +kernel
theorem dX8_sure_29 : decode cX8_sure 29 = .ok (.istore_n 3, 1) := by decide +kernel
theorem dX8_sure_30 : decode cX8_sure 30 = .ok (.iconst 0, 1) := by decide +kernel
theorem dX8_sure_31 : decode cX8_sure 31 = .ok (.istore 4, 2) := by decide +kernel
theorem dX8_sure_33 : decode cX8_sure 33 = .ok (.iload 4, 2) := by decide +kernel
theorem dX8_sure_35 : decode cX8_sure 35 = .ok (.aload_n 0, 1) := by decide +kernel
theorem dX8_sure_36 : decode cX8_sure 36 = .ok (.getfield 52, 3) := by decide +kernel
theorem dX8_sure_39 : decode cX8_sure 39 = .ok (.aload_n 0, 1) := by decide +kernel
theorem dX8_sure_40 : decode cX8_sure 40 = .ok (.getfield 230, 3) := by decide +kernel
theorem dX8_sure_43 : decode cX8_sure 43 = .ok (.iaload, 1) := by decide +kernel
theorem dX8_sure_44 : decode cX8_sure 44 = .ok (.invokestatic 458, 3) := by decide +kernel
theorem dX8_sure_47 : decode cX8_sure 47 = .ok (.if_icmp .ge 61, 3) := by decide +kernel
theorem dX8_sure_50 : decode cX8_sure 50 = .ok (.aload_n 0, 1) := by decide +kernel
theorem dX8_sure_51 : decode cX8_sure 51 = .ok (.iload 4, 2) := by decide +kernel
theorem dX8_sure_53 : decode cX8_sure 53 = .ok (.invokevirtual 461, 3) := by decide +kernel
theorem dX8_sure_56 : decode cX8_sure 56 = .ok (.ifCond .ne 6, 3) := by decide +kernel
theorem dX8_sure_59 : decode cX8_sure 59 = .ok (.goto 43, 3) := by decide +kernel
theorem dX8_sure_62 : decode cX8_sure 62 = .ok (.iload 4, 2) := by decide +kernel
theorem dX8_sure_64 : decode cX8_sure 64 = .ok (.aload_n 0, 1) := by decide +kernel
theorem dX8_sure_65 : decode cX8_sure 65 = .ok (.getfield 52, 3) := by decide +kernel
theorem dX8_sure_68 : decode cX8_sure 68 = .ok (.aload_n 0, 1) := by decide +kernel
theorem dX8_sure_69 : decode cX8_sure 69 = .ok (.getfield 230, 3) := by decide +kernel
theorem dX8_sure_72 : decode cX8_sure 72 = .ok (.iaload, 1) := by decide +kernel
theorem dX8_sure_73 : decode cX8_sure 73 = .ok (.iconst 1, 1) := by decide +kernel
theorem dX8_sure_74 : decode cX8_sure 74 = .ok (.isub, 1) := by decide +kernel
theorem dX8_sure_75 : decode cX8_sure 75 = .ok (.iload_n 2, 1) := by decide +kernel
theorem dX8_sure_76 : decode cX8_sure 76 = .ok (.isub, 1) := by decide +kernel
theorem dX8_sure_77 : decode cX8_sure 77 = .ok (.invokestatic 458, 3) := by decide +kernel
theorem dX8_sure_80 : decode cX8_sure 80 = .ok (.idiv, 1) := by decide +kernel
theorem dX8_sure_81 : decode cX8_sure 81 = .ok (.bipush 6, 2) := by decide +kernel
theorem dX8_sure_83 : decode cX8_sure 83 = .ok (.irem, 1) := by decide +kernel
theorem dX8_sure_84 : decode cX8_sure 84 = .ok (.istore 5, 2) := by decide +kernel
theorem dX8_sure_86 : decode cX8_sure 86 = .ok (.iload_n 3, 1) := by decide +kernel
theorem dX8_sure_87 : decode cX8_sure 87 = .ok (.ifCond .lt 12, 3) := by decide +kernel
theorem dX8_sure_90 : decode cX8_sure 90 = .ok (.iload_n 3, 1) := by decide +kernel
theorem dX8_sure_91 : decode cX8_sure 91 = .ok (.iload 5, 2) := by decide +kernel
theorem dX8_sure_93 : decode cX8_sure 93 = .ok (.if_icmp .eq 6, 3) := by decide +kernel
theorem dX8_sure_96 : decode cX8_sure 96 = .ok (.bipush (-2), 2) := by decide +kernel
theorem dX8_sure_98 : decode cX8_sure 98 = .ok (.ireturn, 1) := by decide +kernel
theorem dX8_sure_99 : decode cX8_sure 99 = .ok (.iload 5, 2) := by decide +kernel
theorem dX8_sure_101 : decode cX8_sure 101 = .ok (.istore_n 3, 1) := by decide +kernel
theorem dX8_sure_102 : decode cX8_sure 102 = .ok (.iinc 4 1, 3) := by decide +kernel
theorem dX8_sure_105 : decode cX8_sure 105 = .ok (.goto (-72), 3) := by decide +kernel
theorem dX8_sure_108 : decode cX8_sure 108 = .ok (.iload_n 3, 1) := by decide +kernel
theorem dX8_sure_109 : decode cX8_sure 109 = .ok (.ireturn, 1) := by decide +kernel
theorem dX8_isFree_0 : decode cX8_isFree 0 = .ok (.aload_n 0, 1) := by decide +kernel
theorem dX8_isFree_1 : decode cX8_isFree 1 = .ok (.iload_n 1, 1) := by decide +kernel
theorem dX8_isFree_2 : decode cX8_isFree 2 = .ok (.bipush 8, 2) := by decide +kernel
theorem dX8_isFree_4 : decode cX8_isFree 4 = .ok (.irem, 1) := by decide +kernel
theorem dX8_isFree_5 : decode cX8_isFree 5 = .ok (.iload_n 1, 1) := by decide +kernel
theorem dX8_isFree_6 : decode cX8_isFree 6 = .ok (.bipush 8, 2) := by decide +kernel
theorem dX8_isFree_8 : decode cX8_isFree 8 = .ok (.idiv, 1) := by decide +kernel
theorem dX8_isFree_9 : decode cX8_isFree 9 = .ok (.invokevirtual 360, 3) := by decide +kernel
theorem dX8_isFree_12 : decode cX8_isFree 12 = .ok (.ifCond .eq 20, 3) := by decide +kernel
theorem dX8_isFree_15 : decode cX8_isFree 15 = .ok (.aload_n 0, 1) := by decide +kernel
theorem dX8_isFree_16 : decode cX8_isFree 16 = .ok (.getfield 49, 3) := by decide +kernel
theorem dX8_isFree_19 : decode cX8_isFree 19 = .ok (.bipush 40, 2) := by decide +kernel
theorem dX8_isFree_21 : decode cX8_isFree 21 = .ok (.aload_n 0, 1) := by decide +kernel
theorem dX8_isFree_22 : decode cX8_isFree 22 = .ok (.getfield 230, 3) := by decide +kernel
theorem dX8_isFree_25 : decode cX8_isFree 25 = .ok (.imul, 1) := by decide +kernel
theorem dX8_isFree_26 : decode cX8_isFree 26 = .ok (.iload_n 1, 1) := by decide +kernel
theorem dX8_isFree_27 : decode cX8_isFree 27 = .ok (.iadd, 1) := by decide +kernel
theorem dX8_isFree_28 : decode cX8_isFree 28 = .ok (.iaload, 1) := by decide +kernel
theorem dX8_isFree_29 : decode cX8_isFree 29 = .ok (.ifCond .eq 5, 3) := by decide +kernel
theorem dX8_isFree_32 : decode cX8_isFree 32 = .ok (.iconst 0, 1) := by decide +kernel
theorem dX8_isFree_33 : decode cX8_isFree 33 = .ok (.ireturn, 1) := by decide +kernel
theorem dX8_isFree_34 : decode cX8_isFree 34 = .ok (.iconst 0, 1) := by decide +kernel
theorem dX8_isFree_35 : decode cX8_isFree 35 = .ok (.istore_n 2, 1) := by decide +kernel
theorem dX8_isFree_36 : decode cX8_isFree 36 = .ok (.iload_n 2, 1) := by decide +kernel
theorem dX8_isFree_37 : decode cX8_isFree 37 = .ok (.aload_n 0, 1) := by decide +kernel
theorem dX8_isFree_38 : decode cX8_isFree 38 = .ok (.getfield 52, 3) := by decide +kernel
theorem dX8_isFree_41 : decode cX8_isFree 41 = .ok (.aload_n 0, 1) := by decide +kernel
theorem dX8_isFree_42 : decode cX8_isFree 42 = .ok (.getfield 230, 3) := by decide +kernel
theorem dX8_isFree_45 : decode cX8_isFree 45 = .ok (.iaload, 1) := by decide +kernel
theorem dX8_isFree_46 : decode cX8_isFree 46 = .ok (.if_icmp .ge 47, 3) := by decide +kernel
theorem dX8_isFree_49 : decode cX8_isFree 49 = .ok (.bipush 8, 2) := by decide +kernel
theorem dX8_isFree_51 : decode cX8_isFree 51 = .ok (.aload_n 0, 1) := by decide +kernel
theorem dX8_isFree_52 : decode cX8_isFree 52 = .ok (.getfield 58, 3) := by decide +kernel
theorem dX8_isFree_55 : decode cX8_isFree 55 = .ok (.bipush 6, 2) := by decide +kernel
theorem dX8_isFree_57 : decode cX8_isFree 57 = .ok (.aload_n 0, 1) := by decide +kernel
theorem dX8_isFree_58 : decode cX8_isFree 58 = .ok (.getfield 230, 3) := by decide +kernel
theorem dX8_isFree_61 : decode cX8_isFree 61 = .ok (.imul, 1) := by decide +kernel
theorem dX8_isFree_62 : decode cX8_isFree 62 = .ok (.iload_n 2, 1) := by decide +kernel
theorem dX8_isFree_63 : decode cX8_isFree 63 = .ok (.iadd, 1) := by decide +kernel
theorem dX8_isFree_64 : decode cX8_isFree 64 = .ok (.iaload, 1) := by decide +kernel
theorem dX8_isFree_65 : decode cX8_isFree 65 = .ok (.imul, 1) := by decide +kernel
theorem dX8_isFree_66 : decode cX8_isFree 66 = .ok (.aload_n 0, 1) := by decide +kernel
theorem dX8_isFree_67 : decode cX8_isFree 67 = .ok (.getfield 55, 3) := by decide +kernel
theorem dX8_isFree_70 : decode cX8_isFree 70 = .ok (.bipush 6, 2) := by decide +kernel
theorem dX8_isFree_72 : decode cX8_isFree 72 = .ok (.aload_n 0, 1) := by decide +kernel
theorem dX8_isFree_73 : decode cX8_isFree 73 = .ok (.getfield 230, 3) := by decide +kernel
theorem dX8_isFree_76 : decode cX8_isFree 76 = .ok (.imul, 1) := by decide +kernel
theorem dX8_isFree_77 : decode cX8_isFree 77 = .ok (.iload_n 2, 1) := by decide +kernel
theorem dX8_isFree_78 : decode cX8_isFree 78 = .ok (.iadd, 1) := by decide +kernel
theorem dX8_isFree_79 : decode cX8_isFree 79 = .ok (.iaload, 1) := by decide +kernel
theorem dX8_isFree_80 : decode cX8_isFree 80 = .ok (.iadd, 1) := by decide +kernel
theorem dX8_isFree_81 : decode cX8_isFree 81 = .ok (.iload_n 1, 1) := by decide +kernel
theorem dX8_isFree_82 : decode cX8_isFree 82 = .ok (.if_icmp .ne 5, 3) := by decide +kernel
theorem dX8_isFree_85 : decode cX8_isFree 85 = .ok (.iconst 0, 1) := by decide +kernel
theorem dX8_isFree_86 : decode cX8_isFree 86 = .ok (.ireturn, 1) := by decide +kernel
theorem dX8_isFree_87 : decode cX8_isFree 87 = .ok (.iinc 2 1, 3) := by decide +kernel
theorem dX8_isFree_90 : decode cX8_isFree 90 = .ok (.goto (-54), 3) := by decide +kernel
theorem dX8_isFree_93 : decode cX8_isFree 93 = .ok (.iconst 1, 1) := by decide +kernel
theorem dX8_isFree_94 : decode cX8_isFree 94 = .ok (.ireturn, 1) := by decide +kernel
theorem dX8_rock_0 : decode cX8_rock 0 = .ok (.iload_n 1, 1) := by decide +kernel
theorem dX8_rock_1 : decode cX8_rock 1 = .ok (.iconst 1, 1) := by decide +kernel
theorem dX8_rock_2 : decode cX8_rock 2 = .ok (.bipush 60, 2) := by decide +kernel
theorem dX8_rock_4 : decode cX8_rock 4 = .ok (.invokestatic 303, 3) := by decide +kernel
theorem dX8_rock_7 : decode cX8_rock 7 = .ok (.ifCond .eq 29, 3) := by decide +kernel
theorem dX8_rock_10 : decode cX8_rock 10 = .ok (.iload_n 2, 1) := by decide +kernel
theorem dX8_rock_11 : decode cX8_rock 11 = .ok (.iconst 0, 1) := by decide +kernel
theorem dX8_rock_12 : decode cX8_rock 12 = .ok (.iconst 1, 1) := by decide +kernel
theorem dX8_rock_13 : decode cX8_rock 13 = .ok (.aload_n 0, 1) := by decide +kernel
theorem dX8_rock_14 : decode cX8_rock 14 = .ok (.getfield 52, 3) := by decide +kernel
theorem dX8_rock_17 : decode cX8_rock 17 = .ok (.aload_n 0, 1) := by decide +kernel
theorem dX8_rock_18 : decode cX8_rock 18 = .ok (.getfield 230, 3) := by decide +kernel
theorem dX8_rock_21 : decode cX8_rock 21 = .ok (.iaload, 1) := by decide +kernel
theorem dX8_rock_22 : decode cX8_rock 22 = .ok (.ishl, 1) := by decide +kernel
theorem dX8_rock_23 : decode cX8_rock 23 = .ok (.iconst 1, 1) := by decide +kernel
theorem dX8_rock_24 : decode cX8_rock 24 = .ok (.isub, 1) := by decide +kernel
theorem dX8_rock_25 : decode cX8_rock 25 = .ok (.invokestatic 303, 3) := by decide +kernel
theorem dX8_rock_28 : decode cX8_rock 28 = .ok (.ifCond .eq 8, 3) := by decide +kernel
theorem dX8_rock_31 : decode cX8_rock 31 = .ok (.iload_n 3, 1) := by decide +kernel
theorem dX8_rock_32 : decode cX8_rock 32 = .ok (.iconst (-1), 1) := by decide +kernel
theorem dX8_rock_33 : decode cX8_rock 33 = .ok (.if_icmp .ge 5, 3) := by decide +kernel
theorem dX8_rock_36 : decode cX8_rock 36 = .ok (.iconst (-1), 1) := by decide +kernel
theorem dX8_rock_37 : decode cX8_rock 37 = .ok (.ireturn, 1) := by decide +kernel
theorem dX8_rock_38 : decode cX8_rock 38 = .ok (.iconst 0, 1) := by decide +kernel
theorem dX8_rock_39 : decode cX8_rock 39 = .ok (.istore 4, 2) := by decide +kernel
theorem dX8_rock_41 : decode cX8_rock 41 = .ok (.iconst 0, 1) := by decide +kernel
theorem dX8_rock_42 : decode cX8_rock 42 = .ok (.istore 5, 2) := by decide +kernel
theorem dX8_rock_44 : decode cX8_rock 44 = .ok (.iload 5, 2) := by decide +kernel
theorem dX8_rock_46 : decode cX8_rock 46 = .ok (.bipush 40, 2) := by decide +kernel
theorem dX8_rock_48 : decode cX8_rock 48 = .ok (.if_icmp .ge 55, 3) := by decide +kernel
theorem dX8_rock_51 : decode cX8_rock 51 = .ok (.aload_n 0, 1) := by decide +kernel
theorem dX8_rock_52 : decode cX8_rock 52 = .ok (.iload 5, 2) := by decide +kernel
theorem dX8_rock_54 : decode cX8_rock 54 = .ok (.invokevirtual 464, 3) := by decide +kernel
theorem dX8_rock_57 : decode cX8_rock 57 = .ok (.ifCond .ne 6, 3) := by decide +kernel
theorem dX8_rock_60 : decode cX8_rock 60 = .ok (.goto 37, 3) := by decide +kernel
theorem dX8_rock_63 : decode cX8_rock 63 = .ok (.aload_n 0, 1) := by decide +kernel
theorem dX8_rock_64 : decode cX8_rock 64 = .ok (.iload 5, 2) := by decide +kernel
theorem dX8_rock_66 : decode cX8_rock 66 = .ok (.invokevirtual 328, 3) := by decide +kernel
theorem dX8_rock_69 : decode cX8_rock 69 = .ok (.aload_n 0, 1) := by decide +kernel
theorem dX8_rock_70 : decode cX8_rock 70 = .ok (.iload_n 1, 1) := by decide +kernel
theorem dX8_rock_71 : decode cX8_rock 71 = .ok (.invokevirtual 403, 3) := by decide +kernel
theorem dX8_rock_74 : decode cX8_rock 74 = .ok (.aload_n 0, 1) := by decide +kernel
theorem dX8_rock_75 : decode cX8_rock 75 = .ok (.invokevirtual 412, 3) := by decide +kernel
theorem dX8_rock_78 : decode cX8_rock 78 = .ok (.iload_n 2, 1) := by decide +kernel
theorem dX8_rock_79 : decode cX8_rock 79 = .ok (.if_icmp .eq 6, 3) := by decide +kernel
theorem dX8_rock_82 : decode cX8_rock 82 = .ok (.goto 15, 3) := by decide +kernel
theorem dX8_rock_85 : decode cX8_rock 85 = .ok (.iload 4, 2) := by decide +kernel
theorem dX8_rock_87 : decode cX8_rock 87 = .ok (.iload_n 3, 1) := by decide +kernel
theorem dX8_rock_88 : decode cX8_rock 88 = .ok (.if_icmp .ne 6, 3) := by decide +kernel
theorem dX8_rock_91 : decode cX8_rock 91 = .ok (.iload 5, 2) := by decide +kernel
theorem dX8_rock_93 : decode cX8_rock 93 = .ok (.ireturn, 1) := by decide +kernel
theorem dX8_rock_94 : decode cX8_rock 94 = .ok (.iinc 4 1, 3) := by decide +kernel
theorem dX8_rock_97 : decode cX8_rock 97 = .ok (.iinc 5 1, 3) := by decide +kernel
theorem dX8_rock_100 : decode cX8_rock 100 = .ok (.goto (-56), 3) := by decide +kernel
theorem dX8_rock_103 : decode cX8_rock 103 = .ok (.iload_n 3, 1) := by decide +kernel
theorem dX8_rock_104 : decode cX8_rock 104 = .ok (.iconst (-1), 1) := by decide +kernel
theorem dX8_rock_105 : decode cX8_rock 105 = .ok (.if_icmp .ne 8, 3) := by decide +kernel
theorem dX8_rock_108 : decode cX8_rock 108 = .ok (.iload 4, 2) := by decide +kernel
theorem dX8_rock_110 : decode cX8_rock 110 = .ok (.goto 4, 3) := by decide +kernel
theorem dX8_rock_113 : decode cX8_rock 113 = .ok (.iconst (-1), 1) := by decide +kernel
theorem dX8_rock_114 : decode cX8_rock 114 = .ok (.ireturn, 1) := by decide +kernel
theorem dX8_hold_0 : decode cX8_hold 0 = .ok (.iload_n 1, 1) := by decide +kernel
theorem dX8_hold_1 : decode cX8_hold 1 = .ok (.iconst 0, 1) := by decide +kernel
theorem dX8_hold_2 : decode cX8_hold 2 = .ok (.iconst 2, 1) := by decide +kernel
theorem dX8_hold_3 : decode cX8_hold 3 = .ok (.invokestatic 303, 3) := by decide +kernel
theorem dX8_hold_6 : decode cX8_hold 6 = .ok (.ifCond .ne 5, 3) := by decide +kernel
theorem dX8_hold_9 : decode cX8_hold 9 = .ok (.iconst 0, 1) := by decide +kernel
theorem dX8_hold_10 : decode cX8_hold 10 = .ok (.ireturn, 1) := by decide +kernel
theorem dX8_hold_11 : decode cX8_hold 11 = .ok (.aload_n 0, 1) := by decide +kernel
theorem dX8_hold_12 : decode cX8_hold 12 = .ok (.getfield 143, 3) := by decide +kernel
theorem dX8_hold_15 : decode cX8_hold 15 = .ok (.iload_n 1, 1) := by decide +kernel
theorem dX8_hold_16 : decode cX8_hold 16 = .ok (.iconst 1, 1) := by decide +kernel
theorem dX8_hold_17 : decode cX8_hold 17 = .ok (.bastore, 1) := by decide +kernel
theorem dX8_hold_18 : decode cX8_hold 18 = .ok (.iconst 0, 1) := by decide +kernel
theorem dX8_hold_19 : decode cX8_hold 19 = .ok (.istore_n 2, 1) := by decide +kernel
theorem dX8_hold_20 : decode cX8_hold 20 = .ok (.iload_n 2, 1) := by decide +kernel
theorem dX8_hold_21 : decode cX8_hold 21 = .ok (.sipush 512, 3) := by decide +kernel
theorem dX8_hold_24 : decode cX8_hold 24 = .ok (.if_icmp .ge 27, 3) := by decide +kernel
theorem dX8_hold_27 : decode cX8_hold 27 = .ok (.aload_n 0, 1) := by decide +kernel
theorem dX8_hold_28 : decode cX8_hold 28 = .ok (.getfield 146, 3) := by decide +kernel
theorem dX8_hold_31 : decode cX8_hold 31 = .ok (.sipush 512, 3) := by decide +kernel
theorem dX8_hold_34 : decode cX8_hold 34 = .ok (.iload_n 1, 1) := by decide +kernel
theorem dX8_hold_35 : decode cX8_hold 35 = .ok (.imul, 1) := by decide +kernel
theorem dX8_hold_36 : decode cX8_hold 36 = .ok (.iload_n 2, 1) := by decide +kernel
theorem dX8_hold_37 : decode cX8_hold 37 = .ok (.iadd, 1) := by decide +kernel
theorem dX8_hold_38 : decode cX8_hold 38 = .ok (.aload_n 0, 1) := by decide +kernel
theorem dX8_hold_39 : decode cX8_hold 39 = .ok (.getfield 110, 3) := by decide +kernel
theorem dX8_hold_42 : decode cX8_hold 42 = .ok (.iload_n 2, 1) := by decide +kernel
theorem dX8_hold_43 : decode cX8_hold 43 = .ok (.iaload, 1) := by decide +kernel
theorem dX8_hold_44 : decode cX8_hold 44 = .ok (.iastore, 1) := by decide +kernel
theorem dX8_hold_45 : decode cX8_hold 45 = .ok (.iinc 2 1, 3) := by decide +kernel
theorem dX8_hold_48 : decode cX8_hold 48 = .ok (.goto (-28), 3) := by decide +kernel
theorem dX8_hold_51 : decode cX8_hold 51 = .ok (.iconst 1, 1) := by decide +kernel
theorem dX8_hold_52 : decode cX8_hold 52 = .ok (.ireturn, 1) := by decide +kernel
theorem dX8_restore_0 : decode cX8_restore 0 = .ok (.iload_n 1, 1) := by decide +kernel
theorem dX8_restore_1 : decode cX8_restore 1 = .ok (.iconst 0, 1) := by decide +kernel
theorem dX8_restore_2 : decode cX8_restore 2 = .ok (.iconst 2, 1) := by decide +kernel
theorem dX8_restore_3 : decode cX8_restore 3 = .ok (.invokestatic 303, 3) := by decide +kernel
theorem dX8_restore_6 : decode cX8_restore 6 = .ok (.ifCond .eq 12, 3) := by decide +kernel
theorem dX8_restore_9 : decode cX8_restore 9 = .ok (.aload_n 0, 1) := by decide +kernel
theorem dX8_restore_10 : decode cX8_restore 10 = .ok (.getfield 143, 3) := by decide +kernel
theorem dX8_restore_13 : decode cX8_restore 13 = .ok (.iload_n 1, 1) := by decide +kernel
theorem dX8_restore_14 : decode cX8_restore 14 = .ok (.baload, 1) := by decide +kernel
theorem dX8_restore_15 : decode cX8_restore 15 = .ok (.ifCond .ne 5, 3) := by decide +kernel
theorem dX8_restore_18 : decode cX8_restore 18 = .ok (.iconst 0, 1) := by decide +kernel
theorem dX8_restore_19 : decode cX8_restore 19 = .ok (.ireturn, 1) := by decide +kernel
theorem dX8_restore_20 : decode cX8_restore 20 = .ok (.iconst 0, 1) := by decide +kernel
theorem dX8_restore_21 : decode cX8_restore 21 = .ok (.istore_n 2, 1) := by decide +kernel
theorem dX8_restore_22 : decode cX8_restore 22 = .ok (.iload_n 2, 1) := by decide +kernel
theorem dX8_restore_23 : decode cX8_restore 23 = .ok (.sipush 512, 3) := by decide +kernel
theorem dX8_restore_26 : decode cX8_restore 26 = .ok (.if_icmp .ge 27, 3) := by decide +kernel
theorem dX8_restore_29 : decode cX8_restore 29 = .ok (.aload_n 0, 1) := by decide +kernel
theorem dX8_restore_30 : decode cX8_restore 30 = .ok (.getfield 110, 3) := by decide +kernel
theorem dX8_restore_33 : decode cX8_restore 33 = .ok (.iload_n 2, 1) := by decide +kernel
theorem dX8_restore_34 : decode cX8_restore 34 = .ok (.aload_n 0, 1) := by decide +kernel
theorem dX8_restore_35 : decode cX8_restore 35 = .ok (.getfield 146, 3) := by decide +kernel
theorem dX8_restore_38 : decode cX8_restore 38 = .ok (.sipush 512, 3) := by decide +kernel
theorem dX8_restore_41 : decode cX8_restore 41 = .ok (.iload_n 1, 1) := by decide +kernel
theorem dX8_restore_42 : decode cX8_restore 42 = .ok (.imul, 1) := by decide +kernel
theorem dX8_restore_43 : decode cX8_restore 43 = .ok (.iload_n 2, 1) := by decide +kernel
theorem dX8_restore_44 : decode cX8_restore 44 = .ok (.iadd, 1) := by decide +kernel
theorem dX8_restore_45 : decode cX8_restore 45 = .ok (.iaload, 1) := by decide +kernel
theorem dX8_restore_46 : decode cX8_restore 46 = .ok (.iastore, 1) := by decide +kernel
theorem dX8_restore_47 : decode cX8_restore 47 = .ok (.iinc 2 1, 3) := by decide +kernel
theorem dX8_restore_50 : decode cX8_restore 50 = .ok (.goto (-28), 3) := by decide +kernel
theorem dX8_restore_53 : decode cX8_restore 53 = .ok (.aload_n 0, 1) := by decide +kernel
theorem dX8_restore_54 : decode cX8_restore 54 = .ok (.iconst 0, 1) := by decide +kernel
theorem dX8_restore_55 : decode cX8_restore 55 = .ok (.putfield 255, 3) := by decide +kernel
theorem dX8_restore_58 : decode cX8_restore 58 = .ok (.iconst 1, 1) := by decide +kernel
theorem dX8_restore_59 : decode cX8_restore 59 = .ok (.ireturn, 1) := by decide +kernel
theorem dX8_count_0 : decode cX8_count 0 = .ok (.aload_n 0, 1) := by decide +kernel
theorem dX8_count_1 : decode cX8_count 1 = .ok (.invokevirtual 397, 3) := by decide +kernel
theorem dX8_count_4 : decode cX8_count 4 = .ok (.iload_n 1, 1) := by decide +kernel
theorem dX8_count_5 : decode cX8_count 5 = .ok (.tableswitch 309 0 13 #[71, 81, 91, 101, 109, 152, 157, 162, 174, 179, 184, 189, 234, 270], 71) := by decide +kernel
theorem dX8_count_76 : decode cX8_count 76 = .ok (.aload_n 0, 1) := by decide +kernel
theorem dX8_count_77 : decode cX8_count 77 = .ok (.getfield 46, 3) := by decide +kernel
theorem dX8_count_80 : decode cX8_count 80 = .ok (.aload_n 0, 1) := by decide +kernel
theorem dX8_count_81 : decode cX8_count 81 = .ok (.getfield 230, 3) := by decide +kernel
theorem dX8_count_84 : decode cX8_count 84 = .ok (.iaload, 1) := by decide +kernel
theorem dX8_count_85 : decode cX8_count 85 = .ok (.ireturn, 1) := by decide +kernel
theorem dX8_count_86 : decode cX8_count 86 = .ok (.aload_n 0, 1) := by decide +kernel
theorem dX8_count_87 : decode cX8_count 87 = .ok (.getfield 43, 3) := by decide +kernel
theorem dX8_count_90 : decode cX8_count 90 = .ok (.aload_n 0, 1) := by decide +kernel
theorem dX8_count_91 : decode cX8_count 91 = .ok (.getfield 230, 3) := by decide +kernel
theorem dX8_count_94 : decode cX8_count 94 = .ok (.iaload, 1) := by decide +kernel
theorem dX8_count_95 : decode cX8_count 95 = .ok (.ireturn, 1) := by decide +kernel
theorem dX8_count_96 : decode cX8_count 96 = .ok (.aload_n 0, 1) := by decide +kernel
theorem dX8_count_97 : decode cX8_count 97 = .ok (.getfield 52, 3) := by decide +kernel
theorem dX8_count_100 : decode cX8_count 100 = .ok (.aload_n 0, 1) := by decide +kernel
theorem dX8_count_101 : decode cX8_count 101 = .ok (.getfield 230, 3) := by decide +kernel
theorem dX8_count_104 : decode cX8_count 104 = .ok (.iaload, 1) := by decide +kernel
theorem dX8_count_105 : decode cX8_count 105 = .ok (.ireturn, 1) := by decide +kernel
theorem dX8_count_106 : decode cX8_count 106 = .ok (.aload_n 0, 1) := by decide +kernel
theorem dX8_count_107 : decode cX8_count 107 = .ok (.getfield 113, 3) := by decide +kernel
theorem dX8_count_110 : decode cX8_count 110 = .ok (.bipush 30, 2) := by decide +kernel
theorem dX8_count_112 : decode cX8_count 112 = .ok (.iaload, 1) := by decide +kernel
theorem dX8_count_113 : decode cX8_count 113 = .ok (.ireturn, 1) := by decide +kernel
theorem dX8_count_114 : decode cX8_count 114 = .ok (.iconst 0, 1) := by decide +kernel
theorem dX8_count_115 : decode cX8_count 115 = .ok (.istore_n 2, 1) := by decide +kernel
theorem dX8_count_116 : decode cX8_count 116 = .ok (.iconst 0, 1) := by decide +kernel
theorem dX8_count_117 : decode cX8_count 117 = .ok (.istore_n 3, 1) := by decide +kernel
theorem dX8_count_118 : decode cX8_count 118 = .ok (.iload_n 3, 1) := by decide +kernel
theorem dX8_count_119 : decode cX8_count 119 = .ok (.aload_n 0, 1) := by decide +kernel
theorem dX8_count_120 : decode cX8_count 120 = .ok (.getfield 52, 3) := by decide +kernel
theorem dX8_count_123 : decode cX8_count 123 = .ok (.aload_n 0, 1) := by decide +kernel
theorem dX8_count_124 : decode cX8_count 124 = .ok (.getfield 230, 3) := by decide +kernel
theorem dX8_count_127 : decode cX8_count 127 = .ok (.iaload, 1) := by decide +kernel
theorem dX8_count_128 : decode cX8_count 128 = .ok (.if_icmp .ge 27, 3) := by decide +kernel
theorem dX8_count_131 : decode cX8_count 131 = .ok (.aload_n 0, 1) := by decide +kernel
theorem dX8_count_132 : decode cX8_count 132 = .ok (.getfield 113, 3) := by decide +kernel
theorem dX8_count_135 : decode cX8_count 135 = .ok (.bipush 12, 2) := by decide +kernel
theorem dX8_count_137 : decode cX8_count 137 = .ok (.iload_n 3, 1) := by decide +kernel
theorem dX8_count_138 : decode cX8_count 138 = .ok (.iadd, 1) := by decide +kernel
theorem dX8_count_139 : decode cX8_count 139 = .ok (.iaload, 1) := by decide +kernel
theorem dX8_count_140 : decode cX8_count 140 = .ok (.ifCond .le 9, 3) := by decide +kernel
theorem dX8_count_143 : decode cX8_count 143 = .ok (.iload_n 2, 1) := by decide +kernel
theorem dX8_count_144 : decode cX8_count 144 = .ok (.iconst 1, 1) := by decide +kernel
theorem dX8_count_145 : decode cX8_count 145 = .ok (.iload_n 3, 1) := by decide +kernel
theorem dX8_count_146 : decode cX8_count 146 = .ok (.ishl, 1) := by decide +kernel
theorem dX8_count_147 : decode cX8_count 147 = .ok (.ior, 1) := by decide +kernel
theorem dX8_count_148 : decode cX8_count 148 = .ok (.istore_n 2, 1) := by decide +kernel
theorem dX8_count_149 : decode cX8_count 149 = .ok (.iinc 3 1, 3) := by decide +kernel
theorem dX8_count_152 : decode cX8_count 152 = .ok (.goto (-34), 3) := by decide +kernel
theorem dX8_count_155 : decode cX8_count 155 = .ok (.iload_n 2, 1) := by decide +kernel
theorem dX8_count_156 : decode cX8_count 156 = .ok (.ireturn, 1) := by decide +kernel
theorem dX8_count_157 : decode cX8_count 157 = .ok (.aload_n 0, 1) := by decide +kernel
theorem dX8_count_158 : decode cX8_count 158 = .ok (.invokevirtual 412, 3) := by decide +kernel
theorem dX8_count_161 : decode cX8_count 161 = .ok (.ireturn, 1) := by decide +kernel
theorem dX8_count_162 : decode cX8_count 162 = .ok (.aload_n 0, 1) := by decide +kernel
theorem dX8_count_163 : decode cX8_count 163 = .ok (.invokevirtual 446, 3) := by decide +kernel
theorem dX8_count_166 : decode cX8_count 166 = .ok (.ireturn, 1) := by decide +kernel
theorem dX8_count_167 : decode cX8_count 167 = .ok (.aload_n 0, 1) := by decide +kernel
theorem dX8_count_168 : decode cX8_count 168 = .ok (.aload_n 0, 1) := by decide +kernel
theorem dX8_count_169 : decode cX8_count 169 = .ok (.getfield 113, 3) := by decide +kernel
theorem dX8_count_172 : decode cX8_count 172 = .ok (.bipush 30, 2) := by decide +kernel
theorem dX8_count_174 : decode cX8_count 174 = .ok (.iaload, 1) := by decide +kernel
theorem dX8_count_175 : decode cX8_count 175 = .ok (.invokevirtual 344, 3) := by decide +kernel
theorem dX8_count_178 : decode cX8_count 178 = .ok (.ireturn, 1) := by decide +kernel
theorem dX8_count_179 : decode cX8_count 179 = .ok (.aload_n 0, 1) := by decide +kernel
theorem dX8_count_180 : decode cX8_count 180 = .ok (.getfield 163, 3) := by decide +kernel
theorem dX8_count_183 : decode cX8_count 183 = .ok (.ireturn, 1) := by decide +kernel
theorem dX8_count_184 : decode cX8_count 184 = .ok (.aload_n 0, 1) := by decide +kernel
theorem dX8_count_185 : decode cX8_count 185 = .ok (.getfield 255, 3) := by decide +kernel
theorem dX8_count_188 : decode cX8_count 188 = .ok (.ireturn, 1) := by decide +kernel
theorem dX8_count_189 : decode cX8_count 189 = .ok (.aload_n 0, 1) := by decide +kernel
theorem dX8_count_190 : decode cX8_count 190 = .ok (.getfield 258, 3) := by decide +kernel
theorem dX8_count_193 : decode cX8_count 193 = .ok (.ireturn, 1) := by decide +kernel
theorem dX8_count_194 : decode cX8_count 194 = .ok (.aload_n 0, 1) := by decide +kernel
theorem dX8_count_195 : decode cX8_count 195 = .ok (.getfield 143, 3) := by decide +kernel
theorem dX8_count_198 : decode cX8_count 198 = .ok (.iconst 0, 1) := by decide +kernel
theorem dX8_count_199 : decode cX8_count 199 = .ok (.baload, 1) := by decide +kernel
theorem dX8_count_200 : decode cX8_count 200 = .ok (.ifCond .eq 7, 3) := by decide +kernel
theorem dX8_count_203 : decode cX8_count 203 = .ok (.iconst 1, 1) := by decide +kernel
theorem dX8_count_204 : decode cX8_count 204 = .ok (.goto 4, 3) := by decide +kernel
theorem dX8_count_207 : decode cX8_count 207 = .ok (.iconst 0, 1) := by decide +kernel
theorem dX8_count_208 : decode cX8_count 208 = .ok (.aload_n 0, 1) := by decide +kernel
theorem dX8_count_209 : decode cX8_count 209 = .ok (.getfield 143, 3) := by decide +kernel
theorem dX8_count_212 : decode cX8_count 212 = .ok (.iconst 1, 1) := by decide +kernel
theorem dX8_count_213 : decode cX8_count 213 = .ok (.baload, 1) := by decide +kernel
theorem dX8_count_214 : decode cX8_count 214 = .ok (.ifCond .eq 7, 3) := by decide +kernel
theorem dX8_count_217 : decode cX8_count 217 = .ok (.iconst 1, 1) := by decide +kernel
theorem dX8_count_218 : decode cX8_count 218 = .ok (.goto 4, 3) := by decide +kernel
theorem dX8_count_221 : decode cX8_count 221 = .ok (.iconst 0, 1) := by decide +kernel
theorem dX8_count_222 : decode cX8_count 222 = .ok (.iadd, 1) := by decide +kernel
theorem dX8_count_223 : decode cX8_count 223 = .ok (.aload_n 0, 1) := by decide +kernel
theorem dX8_count_224 : decode cX8_count 224 = .ok (.getfield 143, 3) := by decide +kernel
theorem dX8_count_227 : decode cX8_count 227 = .ok (.iconst 2, 1) := by decide +kernel
theorem dX8_count_228 : decode cX8_count 228 = .ok (.baload, 1) := by decide +kernel
theorem dX8_count_229 : decode cX8_count 229 = .ok (.ifCond .eq 7, 3) := by decide +kernel
theorem dX8_count_232 : decode cX8_count 232 = .ok (.iconst 1, 1) := by decide +kernel
theorem dX8_count_233 : decode cX8_count 233 = .ok (.goto 4, 3) := by decide +kernel
theorem dX8_count_236 : decode cX8_count 236 = .ok (.iconst 0, 1) := by decide +kernel
theorem dX8_count_237 : decode cX8_count 237 = .ok (.iadd, 1) := by decide +kernel
theorem dX8_count_238 : decode cX8_count 238 = .ok (.ireturn, 1) := by decide +kernel
theorem dX8_count_239 : decode cX8_count 239 = .ok (.iconst 0, 1) := by decide +kernel
theorem dX8_count_240 : decode cX8_count 240 = .ok (.istore_n 2, 1) := by decide +kernel
theorem dX8_count_241 : decode cX8_count 241 = .ok (.iconst 0, 1) := by decide +kernel
theorem dX8_count_242 : decode cX8_count 242 = .ok (.istore_n 3, 1) := by decide +kernel
theorem dX8_count_243 : decode cX8_count 243 = .ok (.iload_n 3, 1) := by decide +kernel
theorem dX8_count_244 : decode cX8_count 244 = .ok (.bipush 40, 2) := by decide +kernel
theorem dX8_count_246 : decode cX8_count 246 = .ok (.if_icmp .ge 27, 3) := by decide +kernel
theorem dX8_count_249 : decode cX8_count 249 = .ok (.aload_n 0, 1) := by decide +kernel
theorem dX8_count_250 : decode cX8_count 250 = .ok (.iload_n 3, 1) := by decide +kernel
theorem dX8_count_251 : decode cX8_count 251 = .ok (.bipush 8, 2) := by decide +kernel
theorem dX8_count_253 : decode cX8_count 253 = .ok (.irem, 1) := by decide +kernel
theorem dX8_count_254 : decode cX8_count 254 = .ok (.iload_n 3, 1) := by decide +kernel
theorem dX8_count_255 : decode cX8_count 255 = .ok (.bipush 8, 2) := by decide +kernel
theorem dX8_count_257 : decode cX8_count 257 = .ok (.idiv, 1) := by decide +kernel
theorem dX8_count_258 : decode cX8_count 258 = .ok (.invokevirtual 440, 3) := by decide +kernel
theorem dX8_count_261 : decode cX8_count 261 = .ok (.ifCond .eq 6, 3) := by decide +kernel
theorem dX8_count_264 : decode cX8_count 264 = .ok (.iinc 2 1, 3) := by decide +kernel
theorem dX8_count_267 : decode cX8_count 267 = .ok (.iinc 3 1, 3) := by decide +kernel
theorem dX8_count_270 : decode cX8_count 270 = .ok (.goto (-27), 3) := by decide +kernel
theorem dX8_count_273 : decode cX8_count 273 = .ok (.iload_n 2, 1) := by decide +kernel
theorem dX8_count_274 : decode cX8_count 274 = .ok (.ireturn, 1) := by decide +kernel
theorem dX8_count_275 : decode cX8_count 275 = .ok (.iconst 0, 1) := by decide +kernel
theorem dX8_count_276 : decode cX8_count 276 = .ok (.istore_n 2, 1) := by decide +kernel
theorem dX8_count_277 : decode cX8_count 277 = .ok (.iconst 0, 1) := by decide +kernel
theorem dX8_count_278 : decode cX8_count 278 = .ok (.istore_n 3, 1) := by decide +kernel
theorem dX8_count_279 : decode cX8_count 279 = .ok (.iload_n 3, 1) := by decide +kernel
theorem dX8_count_280 : decode cX8_count 280 = .ok (.aload_n 0, 1) := by decide +kernel
theorem dX8_count_281 : decode cX8_count 281 = .ok (.getfield 52, 3) := by decide +kernel
theorem dX8_count_284 : decode cX8_count 284 = .ok (.aload_n 0, 1) := by decide +kernel
theorem dX8_count_285 : decode cX8_count 285 = .ok (.getfield 230, 3) := by decide +kernel
theorem dX8_count_288 : decode cX8_count 288 = .ok (.iaload, 1) := by decide +kernel
theorem dX8_count_289 : decode cX8_count 289 = .ok (.if_icmp .ge 23, 3) := by decide +kernel
theorem dX8_count_292 : decode cX8_count 292 = .ok (.aload_n 0, 1) := by decide +kernel
theorem dX8_count_293 : decode cX8_count 293 = .ok (.iload_n 3, 1) := by decide +kernel
theorem dX8_count_294 : decode cX8_count 294 = .ok (.invokevirtual 347, 3) := by decide +kernel
theorem dX8_count_297 : decode cX8_count 297 = .ok (.ifCond .eq 9, 3) := by decide +kernel
theorem dX8_count_300 : decode cX8_count 300 = .ok (.iload_n 2, 1) := by decide +kernel
theorem dX8_count_301 : decode cX8_count 301 = .ok (.iconst 1, 1) := by decide +kernel
theorem dX8_count_302 : decode cX8_count 302 = .ok (.iload_n 3, 1) := by decide +kernel
theorem dX8_count_303 : decode cX8_count 303 = .ok (.ishl, 1) := by decide +kernel
theorem dX8_count_304 : decode cX8_count 304 = .ok (.ior, 1) := by decide +kernel
theorem dX8_count_305 : decode cX8_count 305 = .ok (.istore_n 2, 1) := by decide +kernel
theorem dX8_count_306 : decode cX8_count 306 = .ok (.iinc 3 1, 3) := by decide +kernel
theorem dX8_count_309 : decode cX8_count 309 = .ok (.goto (-30), 3) := by decide +kernel
theorem dX8_count_312 : decode cX8_count 312 = .ok (.iload_n 2, 1) := by decide +kernel
theorem dX8_count_313 : decode cX8_count 313 = .ok (.ireturn, 1) := by decide +kernel
theorem dX8_count_314 : decode cX8_count 314 = .ok (.iconst (-1), 1) := by decide +kernel
theorem dX8_count_315 : decode cX8_count 315 = .ok (.ireturn, 1) := by decide +kernel
