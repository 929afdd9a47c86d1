theorem dX8_feed_0 : decode cX8_feed 0 = .ok (.aload_n 0, 1) := by decide +kernel
theorem dX8_feed_1 : decode cX8_feed 1 = .ok (.getfield 163, 3) := by decide +kernel
theorem dX8_feed_4 : decode cX8_feed 4 = .ok (.bipush 20, 2) := by decide +kernel
theorem dX8_feed_6 : decode cX8_feed 6 = .ok (.iadd, 1) := by decide +kernel
theorem dX8_feed_7 : decode cX8_feed 7 = .ok (.sipush 2000, 3) := by decide +kernel
theorem dX8_feed_10 : decode cX8_feed 10 = .ok (.if_icmp .le 5, 3) := by decide +kernel
theorem dX8_feed_13 : decode cX8_feed 13 = .ok (.iconst (-1), 1) := by decide +kernel
theorem dX8_feed_14 : decode cX8_feed 14 = .ok (.ireturn, 1) := by decide +kernel
theorem dX8_feed_15 : decode cX8_feed 15 = .ok (.aload_n 0, 1) := by decide +kernel
theorem dX8_feed_16 : decode cX8_feed 16 = .ok (.iload_n 1, 1) := by decide +kernel
theorem dX8_feed_17 : decode cX8_feed 17 = .ok (.invokevirtual 166, 3) := by decide +kernel
theorem dX8_feed_20 : decode cX8_feed 20 = .ok (.aload_n 0, 1) := by decide +kernel
theorem dX8_feed_21 : decode cX8_feed 21 = .ok (.iload_n 2, 1) := by decide +kernel
theorem dX8_feed_22 : decode cX8_feed 22 = .ok (.invokevirtual 166, 3) := by decide +kernel
theorem dX8_feed_25 : decode cX8_feed 25 = .ok (.aload_n 0, 1) := by decide +kernel
theorem dX8_feed_26 : decode cX8_feed 26 = .ok (.iload_n 3, 1) := by decide +kernel
theorem dX8_feed_27 : decode cX8_feed 27 = .ok (.invokevirtual 166, 3) := by decide +kernel
theorem dX8_feed_30 : decode cX8_feed 30 = .ok (.aload_n 0, 1) := by decide +kernel
theorem dX8_feed_31 : decode cX8_feed 31 = .ok (.iload 4, 2) := by decide +kernel
theorem dX8_feed_33 : decode cX8_feed 33 = .ok (.invokevirtual 166, 3) := by decide +kernel
theorem dX8_feed_36 : decode cX8_feed 36 = .ok (.aload_n 0, 1) := by decide +kernel
theorem dX8_feed_37 : decode cX8_feed 37 = .ok (.iload 5, 2) := by decide +kernel
theorem dX8_feed_39 : decode cX8_feed 39 = .ok (.invokevirtual 166, 3) := by decide +kernel
theorem dX8_feed_42 : decode cX8_feed 42 = .ok (.aload_n 0, 1) := by decide +kernel
theorem dX8_feed_43 : decode cX8_feed 43 = .ok (.getfield 163, 3) := by decide +kernel
theorem dX8_feed_46 : decode cX8_feed 46 = .ok (.ireturn, 1) := by decide +kernel
theorem dX8_put_0 : decode cX8_put 0 = .ok (.bipush 24, 2) := by decide +kernel
theorem dX8_put_2 : decode cX8_put 2 = .ok (.istore_n 2, 1) := by decide +kernel
theorem dX8_put_3 : decode cX8_put 3 = .ok (.iload_n 2, 1) := by decide +kernel
theorem dX8_put_4 : decode cX8_put 4 = .ok (.ifCond .lt 32, 3) := by decide +kernel
theorem dX8_put_7 : decode cX8_put 7 = .ok (.aload_n 0, 1) := by decide +kernel
theorem dX8_put_8 : decode cX8_put 8 = .ok (.getfield 13, 3) := by decide +kernel
theorem dX8_put_11 : decode cX8_put 11 = .ok (.aload_n 0, 1) := by decide +kernel
theorem dX8_put_12 : decode cX8_put 12 = .ok (.getfield 163, 3) := by decide +kernel
theorem dX8_put_15 : decode cX8_put 15 = .ok (.iload_n 1, 1) := by decide +kernel
theorem dX8_put_16 : decode cX8_put 16 = .ok (.iload_n 2, 1) := by decide +kernel
theorem dX8_put_17 : decode cX8_put 17 = .ok (.ishr, 1) := by decide +kernel
theorem dX8_put_18 : decode cX8_put 18 = .ok (.i2b, 1) := by decide +kernel
theorem dX8_put_19 : decode cX8_put 19 = .ok (.bastore, 1) := by decide +kernel
theorem dX8_put_20 : decode cX8_put 20 = .ok (.aload_n 0, 1) := by decide +kernel
theorem dX8_put_21 : decode cX8_put 21 = .ok (.dup, 1) := by decide +kernel
theorem dX8_put_22 : decode cX8_put 22 = .ok (.getfield 163, 3) := by decide +kernel
theorem dX8_put_25 : decode cX8_put 25 = .ok (.iconst 1, 1) := by decide +kernel
theorem dX8_put_26 : decode cX8_put 26 = .ok (.iadd, 1) := by decide +kernel
theorem dX8_put_27 : decode cX8_put 27 = .ok (.putfield 163, 3) := by decide +kernel
theorem dX8_put_30 : decode cX8_put 30 = .ok (.iinc 2 (-8), 3) := by decide +kernel
theorem dX8_put_33 : decode cX8_put 33 = .ok (.goto (-30), 3) := by decide +kernel
theorem dX8_put_36 : decode cX8_put 36 = .ok (.return_, 1) := by decide +kernel
theorem dX8_back_0 : decode cX8_back 0 = .ok (.iload_n 1, 1) := by decide +kernel
theorem dX8_back_1 : decode cX8_back 1 = .ok (.ifCond .lt 11, 3) := by decide +kernel
theorem dX8_back_4 : decode cX8_back 4 = .ok (.iload_n 1, 1) := by decide +kernel
theorem dX8_back_5 : decode cX8_back 5 = .ok (.aload_n 0, 1) := by decide +kernel
theorem dX8_back_6 : decode cX8_back 6 = .ok (.getfield 163, 3) := by decide +kernel
theorem dX8_back_9 : decode cX8_back 9 = .ok (.if_icmp .le 5, 3) := by decide +kernel
theorem dX8_back_12 : decode cX8_back 12 = .ok (.iconst (-1), 1) := by decide +kernel
theorem dX8_back_13 : decode cX8_back 13 = .ok (.ireturn, 1) := by decide +kernel
theorem dX8_back_14 : decode cX8_back 14 = .ok (.aload_n 0, 1) := by decide +kernel
theorem dX8_back_15 : decode cX8_back 15 = .ok (.dup, 1) := by decide +kernel
theorem dX8_back_16 : decode cX8_back 16 = .ok (.getfield 163, 3) := by decide +kernel
theorem dX8_back_19 : decode cX8_back 19 = .ok (.iload_n 1, 1) := by decide +kernel
theorem dX8_back_20 : decode cX8_back 20 = .ok (.isub, 1) := by decide +kernel
theorem dX8_back_21 : decode cX8_back 21 = .ok (.putfield 163, 3) := by decide +kernel
theorem dX8_back_24 : decode cX8_back 24 = .ok (.aload_n 0, 1) := by decide +kernel
theorem dX8_back_25 : decode cX8_back 25 = .ok (.getfield 163, 3) := by decide +kernel
theorem dX8_back_28 : decode cX8_back 28 = .ok (.ireturn, 1) := by decide +kernel
theorem dX8_byteAt_0 : decode cX8_byteAt 0 = .ok (.iload_n 1, 1) := by decide +kernel
theorem dX8_byteAt_1 : decode cX8_byteAt 1 = .ok (.aload_n 0, 1) := by decide +kernel
theorem dX8_byteAt_2 : decode cX8_byteAt 2 = .ok (.getfield 169, 3) := by decide +kernel
theorem dX8_byteAt_5 : decode cX8_byteAt 5 = .ok (.if_icmp .ge 16, 3) := by decide +kernel
theorem dX8_byteAt_8 : decode cX8_byteAt 8 = .ok (.aload_n 0, 1) := by decide +kernel
theorem dX8_byteAt_9 : decode cX8_byteAt 9 = .ok (.getfield 17, 3) := by decide +kernel
theorem dX8_byteAt_12 : decode cX8_byteAt 12 = .ok (.iload_n 1, 1) := by decide +kernel
theorem dX8_byteAt_13 : decode cX8_byteAt 13 = .ok (.baload, 1) := by decide +kernel
theorem dX8_byteAt_14 : decode cX8_byteAt 14 = .ok (.sipush 255, 3) := by decide +kernel
theorem dX8_byteAt_17 : decode cX8_byteAt 17 = .ok (.iand, 1) := by decide +kernel
theorem dX8_byteAt_18 : decode cX8_byteAt 18 = .ok (.goto 4, 3) := by decide +kernel
theorem dX8_byteAt_21 : decode cX8_byteAt 21 = .ok (.iconst 0, 1) := by decide +kernel
theorem dX8_byteAt_22 : decode cX8_byteAt 22 = .ok (.ireturn, 1) := by decide +kernel
theorem dX8_isDigit_0 : decode cX8_isDigit 0 = .ok (.iload_n 0, 1) := by decide +kernel
theorem dX8_isDigit_1 : decode cX8_isDigit 1 = .ok (.bipush 48, 2) := by decide +kernel
theorem dX8_isDigit_3 : decode cX8_isDigit 3 = .ok (.if_icmp .lt 13, 3) := by decide +kernel
theorem dX8_isDigit_6 : decode cX8_isDigit 6 = .ok (.iload_n 0, 1) := by decide +kernel
theorem dX8_isDigit_7 : decode cX8_isDigit 7 = .ok (.bipush 57, 2) := by decide +kernel
theorem dX8_isDigit_9 : decode cX8_isDigit 9 = .ok (.if_icmp .gt 7, 3) := by decide +kernel
theorem dX8_isDigit_12 : decode cX8_isDigit 12 = .ok (.iconst 1, 1) := by decide +kernel
theorem dX8_isDigit_13 : decode cX8_isDigit 13 = .ok (.goto 4, 3) := by decide +kernel
theorem dX8_isDigit_16 : decode cX8_isDigit 16 = .ok (.iconst 0, 1) := by decide +kernel
theorem dX8_isDigit_17 : decode cX8_isDigit 17 = .ok (.ireturn, 1) := by decide +kernel
theorem dX8_isLetter_0 : decode cX8_isLetter 0 = .ok (.iload_n 0, 1) := by decide +kernel
theorem dX8_isLetter_1 : decode cX8_isLetter 1 = .ok (.bipush 97, 2) := by decide +kernel
theorem dX8_isLetter_3 : decode cX8_isLetter 3 = .ok (.if_icmp .lt 13, 3) := by decide +kernel
theorem dX8_isLetter_6 : decode cX8_isLetter 6 = .ok (.iload_n 0, 1) := by decide +kernel
theorem dX8_isLetter_7 : decode cX8_isLetter 7 = .ok (.bipush 122, 2) := by decide +kernel
theorem dX8_isLetter_9 : decode cX8_isLetter 9 = .ok (.if_icmp .gt 7, 3) := by decide +kernel
theorem dX8_isLetter_12 : decode cX8_isLetter 12 = .ok (.iconst 1, 1) := by decide +kernel
theorem dX8_isLetter_13 : decode cX8_isLetter 13 = .ok (.goto 4, 3) := by decide +kernel
theorem dX8_isLetter_16 : decode cX8_isLetter 16 = .ok (.iconst 0, 1) := by decide +kernel
theorem dX8_isLetter_17 : decode cX8_isLetter 17 = .ok (.ireturn, 1) := by decide +kernel
theorem dX8_appends_0 : decode cX8_appends 0 = .ok (.iload_n 2, 1) := by decide +kernel
theorem dX8_appends_1 : decode cX8_appends 1 = .ok (.ifCond .ne 7, 3) := by decide +kernel
theorem dX8_appends_4 : decode cX8_appends 4 = .ok (.lload_n 0, 1) := by decide +kernel
theorem dX8_appends_5 : decode cX8_appends 5 = .ok (.goto 16, 3) := by decide +kernel
theorem dX8_appends_8 : decode cX8_appends 8 = .ok (.ldc2_w 172, 3) := by decide +kernel
theorem dX8_appends_11 : decode cX8_appends 11 = .ok (.lload_n 0, 1) := by decide +kernel
theorem dX8_appends_12 : decode cX8_appends 12 = .ok (.lmul, 1) := by decide +kernel
theorem dX8_appends_13 : decode cX8_appends 13 = .ok (.iload_n 2, 1) := by decide +kernel
theorem dX8_appends_14 : decode cX8_appends 14 = .ok (.bipush 97, 2) := by decide +kernel
theorem dX8_appends_16 : decode cX8_appends 16 = .ok (.isub, 1) := by decide +kernel
theorem dX8_appends_17 : decode cX8_appends 17 = .ok (.iconst 1, 1) := by decide +kernel
theorem dX8_appends_18 : decode cX8_appends 18 = .ok (.iadd, 1) := by decide +kernel
theorem dX8_appends_19 : decode cX8_appends 19 = .ok (.i2l, 1) := by decide +kernel
theorem dX8_appends_20 : decode cX8_appends 20 = .ok (.ladd, 1) := by decide +kernel
theorem dX8_appends_21 : decode cX8_appends 21 = .ok (.lreturn, 1) := by decide +kernel
theorem dX8_word_0 : decode cX8_word 0 = .ok (.lconst 0, 1) := by decide +kernel
theorem dX8_word_1 : decode cX8_word 1 = .ok (.iload_n 0, 1) := by decide +kernel
theorem dX8_word_2 : decode cX8_word 2 = .ok (.invokestatic 174, 3) := by decide +kernel
theorem dX8_word_5 : decode cX8_word 5 = .ok (.iload_n 1, 1) := by decide +kernel
theorem dX8_word_6 : decode cX8_word 6 = .ok (.invokestatic 174, 3) := by decide +kernel
theorem dX8_word_9 : decode cX8_word 9 = .ok (.iload_n 2, 1) := by decide +kernel
theorem dX8_word_10 : decode cX8_word 10 = .ok (.invokestatic 174, 3) := by decide +kernel
theorem dX8_word_13 : decode cX8_word 13 = .ok (.iload_n 3, 1) := by decide +kernel
theorem dX8_word_14 : decode cX8_word 14 = .ok (.invokestatic 174, 3) := by decide +kernel
theorem dX8_word_17 : decode cX8_word 17 = .ok (.iload 4, 2) := by decide +kernel
theorem dX8_word_19 : decode cX8_word 19 = .ok (.invokestatic 174, 3) := by decide +kernel
theorem dX8_word_22 : decode cX8_word 22 = .ok (.iload 5, 2) := by decide +kernel
theorem dX8_word_24 : decode cX8_word 24 = .ok (.invokestatic 174, 3) := by decide +kernel
theorem dX8_word_27 : decode cX8_word 27 = .ok (.iload 6, 2) := by decide +kernel
theorem dX8_word_29 : decode cX8_word 29 = .ok (.invokestatic 174, 3) := by decide +kernel
theorem dX8_word_32 : decode cX8_word 32 = .ok (.lreturn, 1) := by decide +kernel
theorem dX8_token_0 : decode cX8_token 0 = .ok (.aload_n 0, 1) := by decide +kernel
theorem dX8_token_1 : decode cX8_token 1 = .ok (.getfield 20, 3) := by decide +kernel
theorem dX8_token_4 : decode cX8_token 4 = .ok (.aload_n 0, 1) := by decide +kernel
theorem dX8_token_5 : decode cX8_token 5 = .ok (.getfield 178, 3) := by decide +kernel
theorem dX8_token_8 : decode cX8_token 8 = .ok (.iload_n 1, 1) := by decide +kernel
theorem dX8_token_9 : decode cX8_token 9 = .ok (.iastore, 1) := by decide +kernel
theorem dX8_token_10 : decode cX8_token 10 = .ok (.aload_n 0, 1) := by decide +kernel
theorem dX8_token_11 : decode cX8_token 11 = .ok (.getfield 24, 3) := by decide +kernel
theorem dX8_token_14 : decode cX8_token 14 = .ok (.aload_n 0, 1) := by decide +kernel
theorem dX8_token_15 : decode cX8_token 15 = .ok (.getfield 178, 3) := by decide +kernel
theorem dX8_token_18 : decode cX8_token 18 = .ok (.iload_n 2, 1) := by decide +kernel
theorem dX8_token_19 : decode cX8_token 19 = .ok (.iastore, 1) := by decide +kernel
theorem dX8_token_20 : decode cX8_token 20 = .ok (.aload_n 0, 1) := by decide +kernel
theorem dX8_token_21 : decode cX8_token 21 = .ok (.getfield 27, 3) := by decide +kernel
theorem dX8_token_24 : decode cX8_token 24 = .ok (.aload_n 0, 1) := by decide +kernel
theorem dX8_token_25 : decode cX8_token 25 = .ok (.getfield 178, 3) := by decide +kernel
theorem dX8_token_28 : decode cX8_token 28 = .ok (.iload_n 3, 1) := by decide +kernel
theorem dX8_token_29 : decode cX8_token 29 = .ok (.iastore, 1) := by decide +kernel
theorem dX8_token_30 : decode cX8_token 30 = .ok (.aload_n 0, 1) := by decide +kernel
theorem dX8_token_31 : decode cX8_token 31 = .ok (.getfield 30, 3) := by decide +kernel
theorem dX8_token_34 : decode cX8_token 34 = .ok (.aload_n 0, 1) := by decide +kernel
theorem dX8_token_35 : decode cX8_token 35 = .ok (.getfield 178, 3) := by decide +kernel
theorem dX8_token_38 : decode cX8_token 38 = .ok (.lload 4, 2) := by decide +kernel
theorem dX8_token_40 : decode cX8_token 40 = .ok (.lastore, 1) := by decide +kernel
theorem dX8_token_41 : decode cX8_token 41 = .ok (.aload_n 0, 1) := by decide +kernel
theorem dX8_token_42 : decode cX8_token 42 = .ok (.dup, 1) := by decide +kernel
theorem dX8_token_43 : decode cX8_token 43 = .ok (.getfield 178, 3) := by decide +kernel
theorem dX8_token_46 : decode cX8_token 46 = .ok (.iconst 1, 1) := by decide +kernel
theorem dX8_token_47 : decode cX8_token 47 = .ok (.iadd, 1) := by decide +kernel
theorem dX8_token_48 : decode cX8_token 48 = .ok (.putfield 178, 3) := by decide +kernel
theorem dX8_token_51 : decode cX8_token 51 = .ok (.return_, 1) := by decide +kernel
theorem dX8_cut_0 : decode cX8_cut 0 = .ok (.aload_n 0, 1) := by decide +kernel
theorem dX8_cut_1 : decode cX8_cut 1 = .ok (.iconst 0, 1) := by decide +kernel
theorem dX8_cut_2 : decode cX8_cut 2 = .ok (.putfield 178, 3) := by decide +kernel
theorem dX8_cut_5 : decode cX8_cut 5 = .ok (.iconst 0, 1) := by decide +kernel
theorem dX8_cut_6 : decode cX8_cut 6 = .ok (.istore_n 1, 1) := by decide +kernel
theorem dX8_cut_7 : decode cX8_cut 7 = .ok (.aload_n 0, 1) := by decide +kernel
theorem dX8_cut_8 : decode cX8_cut 8 = .ok (.getfield 178, 3) := by decide +kernel
theorem dX8_cut_11 : decode cX8_cut 11 = .ok (.sipush 400, 3) := by decide +kernel
theorem dX8_cut_14 : decode cX8_cut 14 = .ok (.if_icmp .gt 280, 3) := by decide +kernel
theorem dX8_cut_17 : decode cX8_cut 17 = .ok (.aload_n 0, 1) := by decide +kernel
theorem dX8_cut_18 : decode cX8_cut 18 = .ok (.iload_n 1, 1) := by decide +kernel
theorem dX8_cut_19 : decode cX8_cut 19 = .ok (.invokevirtual 181, 3) := by decide +kernel
theorem dX8_cut_22 : decode cX8_cut 22 = .ok (.istore_n 2, 1) := by decide +kernel
theorem dX8_cut_23 : decode cX8_cut 23 = .ok (.iload_n 1, 1) := by decide +kernel
theorem dX8_cut_24 : decode cX8_cut 24 = .ok (.aload_n 0, 1) := by decide +kernel
theorem dX8_cut_25 : decode cX8_cut 25 = .ok (.getfield 169, 3) := by decide +kernel
theorem dX8_cut_28 : decode cX8_cut 28 = .ok (.if_icmp .lt 15, 3) := by decide +kernel
theorem dX8_cut_31 : decode cX8_cut 31 = .ok (.aload_n 0, 1) := by decide +kernel
theorem dX8_cut_32 : decode cX8_cut 32 = .ok (.iconst 0, 1) := by decide +kernel
theorem dX8_cut_33 : decode cX8_cut 33 = .ok (.aload_n 0, 1) := by decide +kernel
theorem dX8_cut_34 : decode cX8_cut 34 = .ok (.getfield 169, 3) := by decide +kernel
theorem dX8_cut_37 : decode cX8_cut 37 = .ok (.iconst 0, 1) := by decide +kernel
theorem dX8_cut_38 : decode cX8_cut 38 = .ok (.lconst 0, 1) := by decide +kernel
theorem dX8_cut_39 : decode cX8_cut 39 = .ok (.invokevirtual 185, 3) := by decide +kernel
theorem dX8_cut_42 : decode cX8_cut 42 = .ok (.return_, 1) := by decide +kernel
theorem dX8_cut_43 : decode cX8_cut 43 = .ok (.iload_n 2, 1) := by decide +kernel
theorem dX8_cut_44 : decode cX8_cut 44 = .ok (.bipush 9, 2) := by decide +kernel
theorem dX8_cut_46 : decode cX8_cut 46 = .ok (.if_icmp .eq 21, 3) := by decide +kernel
theorem dX8_cut_49 : decode cX8_cut 49 = .ok (.iload_n 2, 1) := by decide +kernel
theorem dX8_cut_50 : decode cX8_cut 50 = .ok (.bipush 10, 2) := by decide +kernel
theorem dX8_cut_52 : decode cX8_cut 52 = .ok (.if_icmp .eq 15, 3) := by decide +kernel
theorem dX8_cut_55 : decode cX8_cut 55 = .ok (.iload_n 2, 1) := by decide +kernel
theorem dX8_cut_56 : decode cX8_cut 56 = .ok (.bipush 13, 2) := by decide +kernel
theorem dX8_cut_58 : decode cX8_cut 58 = .ok (.if_icmp .eq 9, 3) := by decide +kernel
theorem dX8_cut_61 : decode cX8_cut 61 = .ok (.iload_n 2, 1) := by decide +kernel
theorem dX8_cut_62 : decode cX8_cut 62 = .ok (.bipush 32, 2) := by decide +kernel
theorem dX8_cut_64 : decode cX8_cut 64 = .ok (.if_icmp .ne 9, 3) := by decide +kernel
theorem dX8_cut_67 : decode cX8_cut 67 = .ok (.iinc 1 1, 3) := by decide +kernel
theorem dX8_cut_70 : decode cX8_cut 70 = .ok (.goto 221, 3) := by decide +kernel
theorem dX8_cut_73 : decode cX8_cut 73 = .ok (.iload_n 2, 1) := by decide +kernel
theorem dX8_cut_74 : decode cX8_cut 74 = .ok (.invokestatic 189, 3) := by decide +kernel
theorem dX8_cut_77 : decode cX8_cut 77 = .ok (.ifCond .eq 119, 3) := by decide +kernel
theorem dX8_cut_80 : decode cX8_cut 80 = .ok (.iconst 0, 1) := by decide +kernel
theorem dX8_cut_81 : decode cX8_cut 81 = .ok (.istore_n 3, 1) := by decide +kernel
theorem dX8_cut_82 : decode cX8_cut 82 = .ok (.lconst 0, 1) := by decide +kernel
theorem dX8_cut_83 : decode cX8_cut 83 = .ok (.lstore 4, 2) := by decide +kernel
theorem dX8_cut_85 : decode cX8_cut 85 = .ok (.aload_n 0, 1) := by decide +kernel
theorem dX8_cut_86 : decode cX8_cut 86 = .ok (.iload_n 1, 1) := by decide +kernel
theorem dX8_cut_87 : decode cX8_cut 87 = .ok (.iload_n 3, 1) := by decide +kernel
theorem dX8_cut_88 : decode cX8_cut 88 = .ok (.iadd, 1) := by decide +kernel
theorem dX8_cut_89 : decode cX8_cut 89 = .ok (.invokevirtual 181, 3) := by decide +kernel
theorem dX8_cut_92 : decode cX8_cut 92 = .ok (.invokestatic 189, 3) := by decide +kernel
theorem dX8_cut_95 : decode cX8_cut 95 = .ok (.ifCond .eq 29, 3) := by decide +kernel
theorem dX8_cut_98 : decode cX8_cut 98 = .ok (.iload_n 3, 1) := by decide +kernel
theorem dX8_cut_99 : decode cX8_cut 99 = .ok (.bipush 8, 2) := by decide +kernel
theorem dX8_cut_101 : decode cX8_cut 101 = .ok (.if_icmp .ge 17, 3) := by decide +kernel
theorem dX8_cut_104 : decode cX8_cut 104 = .ok (.lload 4, 2) := by decide +kernel
theorem dX8_cut_106 : decode cX8_cut 106 = .ok (.aload_n 0, 1) := by decide +kernel
theorem dX8_cut_107 : decode cX8_cut 107 = .ok (.iload_n 1, 1) := by decide +kernel
theorem dX8_cut_108 : decode cX8_cut 108 = .ok (.iload_n 3, 1) := by decide +kernel
theorem dX8_cut_109 : decode cX8_cut 109 = .ok (.iadd, 1) := by decide +kernel
theorem dX8_cut_110 : decode cX8_cut 110 = .ok (.invokevirtual 181, 3) := by decide +kernel
theorem dX8_cut_113 : decode cX8_cut 113 = .ok (.invokestatic 174, 3) := by decide +kernel
theorem dX8_cut_116 : decode cX8_cut 116 = .ok (.lstore 4, 2) := by decide +kernel
theorem dX8_cut_118 : decode cX8_cut 118 = .ok (.iinc 3 1, 3) := by decide +kernel
theorem dX8_cut_121 : decode cX8_cut 121 = .ok (.goto (-36), 3) := by decide +kernel
theorem dX8_cut_124 : decode cX8_cut 124 = .ok (.iload_n 3, 1) := by decide +kernel
theorem dX8_cut_125 : decode cX8_cut 125 = .ok (.bipush 8, 2) := by decide +kernel
theorem dX8_cut_127 : decode cX8_cut 127 = .ok (.if_icmp .le 7, 3) := by decide +kernel
theorem dX8_cut_130 : decode cX8_cut 130 = .ok (.iconst 3, 1) := by decide +kernel
theorem dX8_cut_131 : decode cX8_cut 131 = .ok (.goto 4, 3) := by decide +kernel
theorem dX8_cut_134 : decode cX8_cut 134 = .ok (.iconst 1, 1) := by decide +kernel
theorem dX8_cut_135 : decode cX8_cut 135 = .ok (.istore 6, 2) := by decide +kernel
theorem dX8_cut_137 : decode cX8_cut 137 = .ok (.iload_n 3, 1) := by decide +kernel
theorem dX8_cut_138 : decode cX8_cut 138 = .ok (.bipush 7, 2) := by decide +kernel
theorem dX8_cut_140 : decode cX8_cut 140 = .ok (.if_icmp .gt 39, 3) := by decide +kernel
theorem dX8_cut_143 : decode cX8_cut 143 = .ok (.iconst 0, 1) := by decide +kernel
theorem dX8_cut_144 : decode cX8_cut 144 = .ok (.istore 7, 2) := by decide +kernel
theorem dX8_cut_146 : decode cX8_cut 146 = .ok (.iload 7, 2) := by decide +kernel
theorem dX8_cut_148 : decode cX8_cut 148 = .ok (.bipush 19, 2) := by decide +kernel
theorem dX8_cut_150 : decode cX8_cut 150 = .ok (.if_icmp .ge 29, 3) := by decide +kernel
theorem dX8_cut_153 : decode cX8_cut 153 = .ok (.aload_n 0, 1) := by decide +kernel
theorem dX8_cut_154 : decode cX8_cut 154 = .ok (.getfield 34, 3) := by decide +kernel
theorem dX8_cut_157 : decode cX8_cut 157 = .ok (.iload 7, 2) := by decide +kernel
theorem dX8_cut_159 : decode cX8_cut 159 = .ok (.laload, 1) := by decide +kernel
theorem dX8_cut_160 : decode cX8_cut 160 = .ok (.lload 4, 2) := by decide +kernel
theorem dX8_cut_162 : decode cX8_cut 162 = .ok (.lcmp, 1) := by decide +kernel
theorem dX8_cut_163 : decode cX8_cut 163 = .ok (.ifCond .ne 10, 3) := by decide +kernel
theorem dX8_cut_166 : decode cX8_cut 166 = .ok (.bipush 20, 2) := by decide +kernel
theorem dX8_cut_168 : decode cX8_cut 168 = .ok (.iload 7, 2) := by decide +kernel
theorem dX8_cut_170 : decode cX8_cut 170 = .ok (.iadd, 1) := by decide +kernel
theorem dX8_cut_171 : decode cX8_cut 171 = .ok (.istore 6, 2) := by decide +kernel
theorem dX8_cut_173 : decode cX8_cut 173 = .ok (.iinc 7 1, 3) := by decide +kernel
theorem dX8_cut_176 : decode cX8_cut 176 = .ok (.goto (-30), 3) := by decide +kernel
theorem dX8_cut_179 : decode cX8_cut 179 = .ok (.aload_n 0, 1) := by decide +kernel
theorem dX8_cut_180 : decode cX8_cut 180 = .ok (.iload 6, 2) := by decide +kernel
theorem dX8_cut_182 : decode cX8_cut 182 = .ok (.iload_n 1, 1) := by decide +kernel
theorem dX8_cut_183 : decode cX8_cut 183 = .ok (.iconst 0, 1) := by decide +kernel
theorem dX8_cut_184 : decode cX8_cut 184 = .ok (.lload 4, 2) := by decide +kernel
theorem dX8_cut_186 : decode cX8_cut 186 = .ok (.invokevirtual 185, 3) := by decide +kernel
theorem dX8_cut_189 : decode cX8_cut 189 = .ok (.iload_n 1, 1) := by decide +kernel
theorem dX8_cut_190 : decode cX8_cut 190 = .ok (.iload_n 3, 1) := by decide +kernel
theorem dX8_cut_191 : decode cX8_cut 191 = .ok (.iadd, 1) := by decide +kernel
theorem dX8_cut_192 : decode cX8_cut 192 = .ok (.istore_n 1, 1) := by decide +kernel
theorem dX8_cut_193 : decode cX8_cut 193 = .ok (.goto 98, 3) := by decide +kernel
theorem dX8_cut_196 : decode cX8_cut 196 = .ok (.iload_n 2, 1) := by decide +kernel
theorem dX8_cut_197 : decode cX8_cut 197 = .ok (.invokestatic 193, 3) := by decide +kernel
theorem dX8_cut_200 : decode cX8_cut 200 = .ok (.ifCond .eq 75, 3) := by decide +kernel
theorem dX8_cut_203 : decode cX8_cut 203 = .ok (.iconst 0, 1) := by decide +kernel
theorem dX8_cut_204 : decode cX8_cut 204 = .ok (.istore_n 3, 1) := by decide +kernel
theorem dX8_cut_205 : decode cX8_cut 205 = .ok (.iconst 0, 1) := by decide +kernel
theorem dX8_cut_206 : decode cX8_cut 206 = .ok (.istore 4, 2) := by decide +kernel
theorem dX8_cut_208 : decode cX8_cut 208 = .ok (.aload_n 0, 1) := by decide +kernel
theorem dX8_cut_209 : decode cX8_cut 209 = .ok (.iload_n 1, 1) := by decide +kernel
theorem dX8_cut_210 : decode cX8_cut 210 = .ok (.iload_n 3, 1) := by decide +kernel
theorem dX8_cut_211 : decode cX8_cut 211 = .ok (.iadd, 1) := by decide +kernel
theorem dX8_cut_212 : decode cX8_cut 212 = .ok (.invokevirtual 181, 3) := by decide +kernel
theorem dX8_cut_215 : decode cX8_cut 215 = .ok (.invokestatic 193, 3) := by decide +kernel
theorem dX8_cut_218 : decode cX8_cut 218 = .ok (.ifCond .eq 32, 3) := by decide +kernel
theorem dX8_cut_221 : decode cX8_cut 221 = .ok (.iload_n 3, 1) := by decide +kernel
theorem dX8_cut_222 : decode cX8_cut 222 = .ok (.iconst 4, 1) := by decide +kernel
theorem dX8_cut_223 : decode cX8_cut 223 = .ok (.if_icmp .ge 21, 3) := by decide +kernel
theorem dX8_cut_226 : decode cX8_cut 226 = .ok (.bipush 10, 2) := by decide +kernel
theorem dX8_cut_228 : decode cX8_cut 228 = .ok (.iload 4, 2) := by decide +kernel
theorem dX8_cut_230 : decode cX8_cut 230 = .ok (.imul, 1) := by decide +kernel
theorem dX8_cut_231 : decode cX8_cut 231 = .ok (.aload_n 0, 1) := by decide +kernel
theorem dX8_cut_232 : decode cX8_cut 232 = .ok (.iload_n 1, 1) := by decide +kernel
theorem dX8_cut_233 : decode cX8_cut 233 = .ok (.iload_n 3, 1) := by decide +kernel
theorem dX8_cut_234 : decode cX8_cut 234 = .ok (.iadd, 1) := by decide +kernel
theorem dX8_cut_235 : decode cX8_cut 235 = .ok (.invokevirtual 181, 3) := by decide +kernel
theorem dX8_cut_238 : decode cX8_cut 238 = .ok (.iadd, 1) := by decide +kernel
theorem dX8_cut_239 : decode cX8_cut 239 = .ok (.bipush 48, 2) := by decide +kernel
theorem dX8_cut_241 : decode cX8_cut 241 = .ok (.isub, 1) := by decide +kernel
theorem dX8_cut_242 : decode cX8_cut 242 = .ok (.istore 4, 2) := by decide +kernel
theorem dX8_cut_244 : decode cX8_cut 244 = .ok (.iinc 3 1, 3) := by decide +kernel
theorem dX8_cut_247 : decode cX8_cut 247 = .ok (.goto (-39), 3) := by decide +kernel
theorem dX8_cut_250 : decode cX8_cut 250 = .ok (.aload_n 0, 1) := by decide +kernel
theorem dX8_cut_251 : decode cX8_cut 251 = .ok (.iload_n 3, 1) := by decide +kernel
theorem dX8_cut_252 : decode cX8_cut 252 = .ok (.iconst 4, 1) := by decide +kernel
theorem dX8_cut_253 : decode cX8_cut 253 = .ok (.if_icmp .le 7, 3) := by decide +kernel
theorem dX8_cut_256 : decode cX8_cut 256 = .ok (.iconst 3, 1) := by decide +kernel
theorem dX8_cut_257 : decode cX8_cut 257 = .ok (.goto 4, 3) := by decide +kernel
theorem dX8_cut_260 : decode cX8_cut 260 = .ok (.iconst 2, 1) := by decide +kernel
theorem dX8_cut_261 : decode cX8_cut 261 = .ok (.iload_n 1, 1) := by decide +kernel
theorem dX8_cut_262 : decode cX8_cut 262 = .ok (.iload 4, 2) := by decide +kernel
theorem dX8_cut_264 : decode cX8_cut 264 = .ok (.lconst 0, 1) := by decide +kernel
theorem dX8_cut_265 : decode cX8_cut 265 = .ok (.invokevirtual 185, 3) := by decide +kernel
theorem dX8_cut_268 : decode cX8_cut 268 = .ok (.iload_n 1, 1) := by decide +kernel
theorem dX8_cut_269 : decode cX8_cut 269 = .ok (.iload_n 3, 1) := by decide +kernel
theorem dX8_cut_270 : decode cX8_cut 270 = .ok (.iadd, 1) := by decide +kernel
theorem dX8_cut_271 : decode cX8_cut 271 = .ok (.istore_n 1, 1) := by decide +kernel
theorem dX8_cut_272 : decode cX8_cut 272 = .ok (.goto 19, 3) := by decide +kernel
theorem dX8_cut_275 : decode cX8_cut 275 = .ok (.iload_n 1, 1) := by decide +kernel
theorem dX8_cut_276 : decode cX8_cut 276 = .ok (.aload_n 0, 1) := by decide +kernel
theorem dX8_cut_277 : decode cX8_cut 277 = .ok (.iload_n 1, 1) := by decide +kernel
theorem dX8_cut_278 : decode cX8_cut 278 = .ok (.iload_n 2, 1) := by decide +kernel
theorem dX8_cut_279 : decode cX8_cut 279 = .ok (.aload_n 0, 1) := by decide +kernel
theorem dX8_cut_280 : decode cX8_cut 280 = .ok (.iload_n 1, 1) := by decide +kernel
theorem dX8_cut_281 : decode cX8_cut 281 = .ok (.iconst 1, 1) := by decide +kernel
theorem dX8_cut_282 : decode cX8_cut 282 = .ok (.iadd, 1) := by decide +kernel
theorem dX8_cut_283 : decode cX8_cut 283 = .ok (.invokevirtual 181, 3) := by decide +kernel
theorem dX8_cut_286 : decode cX8_cut 286 = .ok (.invokevirtual 196, 3) := by decide +kernel
theorem dX8_cut_289 : decode cX8_cut 289 = .ok (.iadd, 1) := by decide +kernel
theorem dX8_cut_290 : decode cX8_cut 290 = .ok (.istore_n 1, 1) := by decide +kernel
theorem dX8_cut_291 : decode cX8_cut 291 = .ok (.goto (-284), 3) := by decide +kernel
theorem dX8_cut_294 : decode cX8_cut 294 = .ok (.return_, 1) := by decide +kernel
theorem dX8_sign_0 : decode cX8_sign 0 = .ok (.iload_n 2, 1) := by decide +kernel
theorem dX8_sign_1 : decode cX8_sign 1 = .ok (.bipush 59, 2) := by decide +kernel
theorem dX8_sign_3 : decode cX8_sign 3 = .ok (.if_icmp .ne 7, 3) := by decide +kernel
theorem dX8_sign_6 : decode cX8_sign 6 = .ok (.iconst 4, 1) := by decide +kernel
theorem dX8_sign_7 : decode cX8_sign 7 = .ok (.goto 36, 3) := by decide +kernel
theorem dX8_sign_10 : decode cX8_sign 10 = .ok (.iload_n 2, 1) := by decide +kernel
theorem dX8_sign_11 : decode cX8_sign 11 = .ok (.bipush 61, 2) := by decide +kernel
theorem dX8_sign_13 : decode cX8_sign 13 = .ok (.if_icmp .ne 7, 3) := by decide +kernel
theorem dX8_sign_16 : decode cX8_sign 16 = .ok (.iconst 5, 1) := by decide +kernel
theorem dX8_sign_17 : decode cX8_sign 17 = .ok (.goto 26, 3) := by decide +kernel
theorem dX8_sign_20 : decode cX8_sign 20 = .ok (.iload_n 2, 1) := by decide +kernel
theorem dX8_sign_21 : decode cX8_sign 21 = .ok (.bipush 40, 2) := by decide +kernel
theorem dX8_sign_23 : decode cX8_sign 23 = .ok (.if_icmp .ne 8, 3) := by decide +kernel
theorem dX8_sign_26 : decode cX8_sign 26 = .ok (.bipush 6, 2) := by decide +kernel
theorem dX8_sign_28 : decode cX8_sign 28 = .ok (.goto 15, 3) := by decide +kernel
theorem dX8_sign_31 : decode cX8_sign 31 = .ok (.iload_n 2, 1) := by decide +kernel
theorem dX8_sign_32 : decode cX8_sign 32 = .ok (.bipush 41, 2) := by decide +kernel
theorem dX8_sign_34 : decode cX8_sign 34 = .ok (.if_icmp .ne 8, 3) := by decide +kernel
theorem dX8_sign_37 : decode cX8_sign 37 = .ok (.bipush 7, 2) := by decide +kernel
theorem dX8_sign_39 : decode cX8_sign 39 = .ok (.goto 4, 3) := by decide +kernel
theorem dX8_sign_42 : decode cX8_sign 42 = .ok (.iconst 3, 1) := by decide +kernel
theorem dX8_sign_43 : decode cX8_sign 43 = .ok (.istore 4, 2) := by decide +kernel
theorem dX8_sign_45 : decode cX8_sign 45 = .ok (.iload_n 2, 1) := by decide +kernel
theorem dX8_sign_46 : decode cX8_sign 46 = .ok (.bipush 43, 2) := by decide +kernel
theorem dX8_sign_48 : decode cX8_sign 48 = .ok (.if_icmp .ne 7, 3) := by decide +kernel
theorem dX8_sign_51 : decode cX8_sign 51 = .ok (.bipush 8, 2) := by decide +kernel
theorem dX8_sign_53 : decode cX8_sign 53 = .ok (.istore 4, 2) := by decide +kernel
theorem dX8_sign_55 : decode cX8_sign 55 = .ok (.iload_n 2, 1) := by decide +kernel
theorem dX8_sign_56 : decode cX8_sign 56 = .ok (.bipush 45, 2) := by decide +kernel
theorem dX8_sign_58 : decode cX8_sign 58 = .ok (.if_icmp .ne 7, 3) := by decide +kernel
theorem dX8_sign_61 : decode cX8_sign 61 = .ok (.bipush 9, 2) := by decide +kernel
theorem dX8_sign_63 : decode cX8_sign 63 = .ok (.istore 4, 2) := by decide +kernel
theorem dX8_sign_65 : decode cX8_sign 65 = .ok (.iload_n 2, 1) := by decide +kernel
theorem dX8_sign_66 : decode cX8_sign 66 = .ok (.bipush 42, 2) := by decide +kernel
theorem dX8_sign_68 : decode cX8_sign 68 = .ok (.if_icmp .ne 7, 3) := by decide +kernel
theorem dX8_sign_71 : decode cX8_sign 71 = .ok (.bipush 10, 2) := by decide +kernel
theorem dX8_sign_73 : decode cX8_sign 73 = .ok (.istore 4, 2) := by decide +kernel
theorem dX8_sign_75 : decode cX8_sign 75 = .ok (.iload_n 2, 1) := by decide +kernel
theorem dX8_sign_76 : decode cX8_sign 76 = .ok (.bipush 47, 2) := by decide +kernel
theorem dX8_sign_78 : decode cX8_sign 78 = .ok (.if_icmp .ne 7, 3) := by decide +kernel
theorem dX8_sign_81 : decode cX8_sign 81 = .ok (.bipush 15, 2) := by decide +kernel
theorem dX8_sign_83 : decode cX8_sign 83 = .ok (.istore 4, 2) := by decide +kernel
theorem dX8_sign_85 : decode cX8_sign 85 = .ok (.iload_n 2, 1) := by decide +kernel
theorem dX8_sign_86 : decode cX8_sign 86 = .ok (.bipush 60, 2) := by decide +kernel
theorem dX8_sign_88 : decode cX8_sign 88 = .ok (.if_icmp .ne 7, 3) := by decide +kernel
theorem dX8_sign_91 : decode cX8_sign 91 = .ok (.bipush 13, 2) := by decide +kernel
theorem dX8_sign_93 : decode cX8_sign 93 = .ok (.istore 4, 2) := by decide +kernel
theorem dX8_sign_95 : decode cX8_sign 95 = .ok (.aload_n 0, 1) := by decide +kernel
theorem dX8_sign_96 : decode cX8_sign 96 = .ok (.iload 4, 2) := by decide +kernel
theorem dX8_sign_98 : decode cX8_sign 98 = .ok (.iload_n 1, 1) := by decide +kernel
theorem dX8_sign_99 : decode cX8_sign 99 = .ok (.iconst 0, 1) := by decide +kernel
theorem dX8_sign_100 : decode cX8_sign 100 = .ok (.lconst 0, 1) := by decide +kernel
theorem dX8_sign_101 : decode cX8_sign 101 = .ok (.invokevirtual 185, 3) := by decide +kernel
theorem dX8_sign_104 : decode cX8_sign 104 = .ok (.iconst 1, 1) := by decide +kernel
theorem dX8_sign_105 : decode cX8_sign 105 = .ok (.ireturn, 1) := by decide +kernel
theorem dX8_is_0 : decode cX8_is 0 = .ok (.aload_n 0, 1) := by decide +kernel
theorem dX8_is_1 : decode cX8_is 1 = .ok (.getfield 200, 3) := by decide +kernel
theorem dX8_is_4 : decode cX8_is 4 = .ok (.ifCond .ne 20, 3) := by decide +kernel
theorem dX8_is_7 : decode cX8_is 7 = .ok (.aload_n 0, 1) := by decide +kernel
theorem dX8_is_8 : decode cX8_is 8 = .ok (.getfield 20, 3) := by decide +kernel
theorem dX8_is_11 : decode cX8_is 11 = .ok (.aload_n 0, 1) := by decide +kernel
theorem dX8_is_12 : decode cX8_is 12 = .ok (.getfield 203, 3) := by decide +kernel
theorem dX8_is_15 : decode cX8_is 15 = .ok (.iaload, 1) := by decide +kernel
theorem dX8_is_16 : decode cX8_is 16 = .ok (.iload_n 1, 1) := by decide +kernel
theorem dX8_is_17 : decode cX8_is 17 = .ok (.if_icmp .ne 7, 3) := by decide +kernel
theorem dX8_is_20 : decode cX8_is 20 = .ok (.iconst 1, 1) := by decide +kernel
theorem dX8_is_21 : decode cX8_is 21 = .ok (.goto 4, 3) := by decide +kernel
theorem dX8_is_24 : decode cX8_is 24 = .ok (.iconst 0, 1) := by decide +kernel
theorem dX8_is_25 : decode cX8_is 25 = .ok (.ireturn, 1) := by decide +kernel
theorem dX8_fail_0 : decode cX8_fail 0 = .ok (.aload_n 0, 1) := by decide +kernel
theorem dX8_fail_1 : decode cX8_fail 1 = .ok (.getfield 200, 3) := by decide +kernel
theorem dX8_fail_4 : decode cX8_fail 4 = .ok (.ifCond .le 4, 3) := by decide +kernel
theorem dX8_fail_7 : decode cX8_fail 7 = .ok (.return_, 1) := by decide +kernel
theorem dX8_fail_8 : decode cX8_fail 8 = .ok (.aload_n 0, 1) := by decide +kernel
theorem dX8_fail_9 : decode cX8_fail 9 = .ok (.iload_n 1, 1) := by decide +kernel
theorem dX8_fail_10 : decode cX8_fail 10 = .ok (.putfield 200, 3) := by decide +kernel
theorem dX8_fail_13 : decode cX8_fail 13 = .ok (.aload_n 0, 1) := by decide +kernel
theorem dX8_fail_14 : decode cX8_fail 14 = .ok (.aload_n 0, 1) := by decide +kernel
theorem dX8_fail_15 : decode cX8_fail 15 = .ok (.getfield 24, 3) := by decide +kernel
theorem dX8_fail_18 : decode cX8_fail 18 = .ok (.aload_n 0, 1) := by decide +kernel
theorem dX8_fail_19 : decode cX8_fail 19 = .ok (.getfield 203, 3) := by decide +kernel
theorem dX8_fail_22 : decode cX8_fail 22 = .ok (.iaload, 1) := by decide +kernel
theorem dX8_fail_23 : decode cX8_fail 23 = .ok (.putfield 206, 3) := by decide +kernel
theorem dX8_fail_26 : decode cX8_fail 26 = .ok (.return_, 1) := by decide +kernel
theorem dX8_wrong_0 : decode cX8_wrong 0 = .ok (.aload_n 0, 1) := by decide +kernel
theorem dX8_wrong_1 : decode cX8_wrong 1 = .ok (.getfield 24, 3) := by decide +kernel
theorem dX8_wrong_4 : decode cX8_wrong 4 = .ok (.iload_n 2, 1) := by decide +kernel
theorem dX8_wrong_5 : decode cX8_wrong 5 = .ok (.iaload, 1) := by decide +kernel
theorem dX8_wrong_6 : decode cX8_wrong 6 = .ok (.istore_n 3, 1) := by decide +kernel
theorem dX8_wrong_7 : decode cX8_wrong 7 = .ok (.aload_n 0, 1) := by decide +kernel
theorem dX8_wrong_8 : decode cX8_wrong 8 = .ok (.getfield 200, 3) := by decide +kernel
theorem dX8_wrong_11 : decode cX8_wrong 11 = .ok (.ifCond .gt 34, 3) := by decide +kernel
theorem dX8_wrong_14 : decode cX8_wrong 14 = .ok (.aload_n 0, 1) := by decide +kernel
theorem dX8_wrong_15 : decode cX8_wrong 15 = .ok (.getfield 209, 3) := by decide +kernel
theorem dX8_wrong_18 : decode cX8_wrong 18 = .ok (.ifCond .eq 28, 3) := by decide +kernel
theorem dX8_wrong_21 : decode cX8_wrong 21 = .ok (.iload_n 3, 1) := by decide +kernel
theorem dX8_wrong_22 : decode cX8_wrong 22 = .ok (.aload_n 0, 1) := by decide +kernel
theorem dX8_wrong_23 : decode cX8_wrong 23 = .ok (.getfield 212, 3) := by decide +kernel
theorem dX8_wrong_26 : decode cX8_wrong 26 = .ok (.if_icmp .gt 19, 3) := by decide +kernel
theorem dX8_wrong_29 : decode cX8_wrong 29 = .ok (.iload_n 3, 1) := by decide +kernel
theorem dX8_wrong_30 : decode cX8_wrong 30 = .ok (.aload_n 0, 1) := by decide +kernel
theorem dX8_wrong_31 : decode cX8_wrong 31 = .ok (.getfield 212, 3) := by decide +kernel
theorem dX8_wrong_34 : decode cX8_wrong 34 = .ok (.if_icmp .ne 12, 3) := by decide +kernel
theorem dX8_wrong_37 : decode cX8_wrong 37 = .ok (.iload_n 1, 1) := by decide +kernel
theorem dX8_wrong_38 : decode cX8_wrong 38 = .ok (.aload_n 0, 1) := by decide +kernel
theorem dX8_wrong_39 : decode cX8_wrong 39 = .ok (.getfield 209, 3) := by decide +kernel
theorem dX8_wrong_42 : decode cX8_wrong 42 = .ok (.if_icmp .lt 4, 3) := by decide +kernel
theorem dX8_wrong_45 : decode cX8_wrong 45 = .ok (.return_, 1) := by decide +kernel
theorem dX8_wrong_46 : decode cX8_wrong 46 = .ok (.aload_n 0, 1) := by decide +kernel
theorem dX8_wrong_47 : decode cX8_wrong 47 = .ok (.iload_n 1, 1) := by decide +kernel
theorem dX8_wrong_48 : decode cX8_wrong 48 = .ok (.putfield 209, 3) := by decide +kernel
theorem dX8_wrong_51 : decode cX8_wrong 51 = .ok (.aload_n 0, 1) := by decide +kernel
theorem dX8_wrong_52 : decode cX8_wrong 52 = .ok (.iload_n 3, 1) := by decide +kernel
theorem dX8_wrong_53 : decode cX8_wrong 53 = .ok (.putfield 212, 3) := by decide +kernel
theorem dX8_wrong_56 : decode cX8_wrong 56 = .ok (.return_, 1) := by decide +kernel
theorem dX8_goesOn_0 : decode cX8_goesOn 0 = .ok (.aload_n 0, 1) := by decide +kernel
theorem dX8_goesOn_1 : decode cX8_goesOn 1 = .ok (.getfield 203, 3) := by decide +kernel
theorem dX8_goesOn_4 : decode cX8_goesOn 4 = .ok (.sipush 400, 3) := by decide +kernel
theorem dX8_goesOn_7 : decode cX8_goesOn 7 = .ok (.if_icmp .ne 11, 3) := by decide +kernel
theorem dX8_goesOn_10 : decode cX8_goesOn 10 = .ok (.aload_n 0, 1) := by decide +kernel
theorem dX8_goesOn_11 : decode cX8_goesOn 11 = .ok (.iconst 2, 1) := by decide +kernel
theorem dX8_goesOn_12 : decode cX8_goesOn 12 = .ok (.invokevirtual 215, 3) := by decide +kernel
theorem dX8_goesOn_15 : decode cX8_goesOn 15 = .ok (.goto 13, 3) := by decide +kernel
theorem dX8_goesOn_18 : decode cX8_goesOn 18 = .ok (.aload_n 0, 1) := by decide +kernel
theorem dX8_goesOn_19 : decode cX8_goesOn 19 = .ok (.dup, 1) := by decide +kernel
theorem dX8_goesOn_20 : decode cX8_goesOn 20 = .ok (.getfield 203, 3) := by decide +kernel
theorem dX8_goesOn_23 : decode cX8_goesOn 23 = .ok (.iconst 1, 1) := by decide +kernel
theorem dX8_goesOn_24 : decode cX8_goesOn 24 = .ok (.iadd, 1) := by decide +kernel
theorem dX8_goesOn_25 : decode cX8_goesOn 25 = .ok (.putfield 203, 3) := by decide +kernel
theorem dX8_goesOn_28 : decode cX8_goesOn 28 = .ok (.return_, 1) := by decide +kernel
theorem dX8_must_0 : decode cX8_must 0 = .ok (.aload_n 0, 1) := by decide +kernel
theorem dX8_must_1 : decode cX8_must 1 = .ok (.iload_n 1, 1) := by decide +kernel
theorem dX8_must_2 : decode cX8_must 2 = .ok (.invokevirtual 218, 3) := by decide +kernel
theorem dX8_must_5 : decode cX8_must 5 = .ok (.ifCond .eq 10, 3) := by decide +kernel
theorem dX8_must_8 : decode cX8_must 8 = .ok (.aload_n 0, 1) := by decide +kernel
theorem dX8_must_9 : decode cX8_must 9 = .ok (.invokevirtual 221, 3) := by decide +kernel
theorem dX8_must_12 : decode cX8_must 12 = .ok (.goto 8, 3) := by decide +kernel
theorem dX8_must_15 : decode cX8_must 15 = .ok (.aload_n 0, 1) := by decide +kernel
theorem dX8_must_16 : decode cX8_must 16 = .ok (.iconst 1, 1) := by decide +kernel
theorem dX8_must_17 : decode cX8_must 17 = .ok (.invokevirtual 215, 3) := by decide +kernel
theorem dX8_must_20 : decode cX8_must 20 = .ok (.return_, 1) := by decide +kernel
theorem dX8_plain_0 : decode cX8_plain 0 = .ok (.aload_n 0, 1) := by decide +kernel
theorem dX8_plain_1 : decode cX8_plain 1 = .ok (.getfield 43, 3) := by decide +kernel
theorem dX8_plain_4 : decode cX8_plain 4 = .ok (.iload_n 1, 1) := by decide +kernel
theorem dX8_plain_5 : decode cX8_plain 5 = .ok (.iconst 0, 1) := by decide +kernel
theorem dX8_plain_6 : decode cX8_plain 6 = .ok (.iastore, 1) := by decide +kernel
theorem dX8_plain_7 : decode cX8_plain 7 = .ok (.aload_n 0, 1) := by decide +kernel
theorem dX8_plain_8 : decode cX8_plain 8 = .ok (.getfield 46, 3) := by decide +kernel
theorem dX8_plain_11 : decode cX8_plain 11 = .ok (.iload_n 1, 1) := by decide +kernel
theorem dX8_plain_12 : decode cX8_plain 12 = .ok (.iconst 0, 1) := by decide +kernel
theorem dX8_plain_13 : decode cX8_plain 13 = .ok (.iastore, 1) := by decide +kernel
theorem dX8_plain_14 : decode cX8_plain 14 = .ok (.aload_n 0, 1) := by decide +kernel
theorem dX8_plain_15 : decode cX8_plain 15 = .ok (.getfield 52, 3) := by decide +kernel
theorem dX8_plain_18 : decode cX8_plain 18 = .ok (.iload_n 1, 1) := by decide +kernel
theorem dX8_plain_19 : decode cX8_plain 19 = .ok (.iconst 0, 1) := by decide +kernel
theorem dX8_plain_20 : decode cX8_plain 20 = .ok (.iastore, 1) := by decide +kernel
theorem dX8_plain_21 : decode cX8_plain 21 = .ok (.aload_n 0, 1) := by decide +kernel
theorem dX8_plain_22 : decode cX8_plain 22 = .ok (.getfield 67, 3) := by decide +kernel
theorem dX8_plain_25 : decode cX8_plain 25 = .ok (.iload_n 1, 1) := by decide +kernel
theorem dX8_plain_26 : decode cX8_plain 26 = .ok (.iconst 0, 1) := by decide +kernel
theorem dX8_plain_27 : decode cX8_plain 27 = .ok (.iastore, 1) := by decide +kernel
theorem dX8_plain_28 : decode cX8_plain 28 = .ok (.aload_n 0, 1) := by decide +kernel
theorem dX8_plain_29 : decode cX8_plain 29 = .ok (.getfield 70, 3) := by decide +kernel
theorem dX8_plain_32 : decode cX8_plain 32 = .ok (.iload_n 1, 1) := by decide +kernel
theorem dX8_plain_33 : decode cX8_plain 33 = .ok (.iconst 0, 1) := by decide +kernel
theorem dX8_plain_34 : decode cX8_plain 34 = .ok (.iastore, 1) := by decide +kernel
theorem dX8_plain_35 : decode cX8_plain 35 = .ok (.iconst 0, 1) := by decide +kernel
theorem dX8_plain_36 : decode cX8_plain 36 = .ok (.istore_n 2, 1) := by decide +kernel
theorem dX8_plain_37 : decode cX8_plain 37 = .ok (.iload_n 2, 1) := by decide +kernel
theorem dX8_plain_38 : decode cX8_plain 38 = .ok (.iconst 3, 1) := by decide +kernel
theorem dX8_plain_39 : decode cX8_plain 39 = .ok (.if_icmp .ge 31, 3) := by decide +kernel
theorem dX8_plain_42 : decode cX8_plain 42 = .ok (.aload_n 0, 1) := by decide +kernel
theorem dX8_plain_43 : decode cX8_plain 43 = .ok (.getfield 73, 3) := by decide +kernel
theorem dX8_plain_46 : decode cX8_plain 46 = .ok (.iconst 3, 1) := by decide +kernel
theorem dX8_plain_47 : decode cX8_plain 47 = .ok (.iload_n 1, 1) := by decide +kernel
theorem dX8_plain_48 : decode cX8_plain 48 = .ok (.imul, 1) := by decide +kernel
theorem dX8_plain_49 : decode cX8_plain 49 = .ok (.iload_n 2, 1) := by decide +kernel
theorem dX8_plain_50 : decode cX8_plain 50 = .ok (.iadd, 1) := by decide +kernel
theorem dX8_plain_51 : decode cX8_plain 51 = .ok (.iconst 0, 1) := by decide +kernel
theorem dX8_plain_52 : decode cX8_plain 52 = .ok (.iastore, 1) := by decide +kernel
theorem dX8_plain_53 : decode cX8_plain 53 = .ok (.aload_n 0, 1) := by decide +kernel
theorem dX8_plain_54 : decode cX8_plain 54 = .ok (.getfield 76, 3) := by decide +kernel
theorem dX8_plain_57 : decode cX8_plain 57 = .ok (.iconst 3, 1) := by decide +kernel
theorem dX8_plain_58 : decode cX8_plain 58 = .ok (.iload_n 1, 1) := by decide +kernel
theorem dX8_plain_59 : decode cX8_plain 59 = .ok (.imul, 1) := by decide +kernel
theorem dX8_plain_60 : decode cX8_plain 60 = .ok (.iload_n 2, 1) := by decide +kernel
theorem dX8_plain_61 : decode cX8_plain 61 = .ok (.iadd, 1) := by decide +kernel
theorem dX8_plain_62 : decode cX8_plain 62 = .ok (.iconst 0, 1) := by decide +kernel
theorem dX8_plain_63 : decode cX8_plain 63 = .ok (.iastore, 1) := by decide +kernel
theorem dX8_plain_64 : decode cX8_plain 64 = .ok (.iinc 2 1, 3) := by decide +kernel
theorem dX8_plain_67 : decode cX8_plain 67 = .ok (.goto (-30), 3) := by decide +kernel
theorem dX8_plain_70 : decode cX8_plain 70 = .ok (.return_, 1) := by decide +kernel
theorem dX8_read_0 : decode cX8_read 0 = .ok (.aload_n 0, 1) := by decide +kernel
theorem dX8_read_1 : decode cX8_read 1 = .ok (.aload_n 0, 1) := by decide +kernel
theorem dX8_read_2 : decode cX8_read 2 = .ok (.getfield 163, 3) := by decide +kernel
theorem dX8_read_5 : decode cX8_read 5 = .ok (.putfield 169, 3) := by decide +kernel
theorem dX8_read_8 : decode cX8_read 8 = .ok (.iconst 0, 1) := by decide +kernel
theorem dX8_read_9 : decode cX8_read 9 = .ok (.istore_n 1, 1) := by decide +kernel
theorem dX8_read_10 : decode cX8_read 10 = .ok (.iload_n 1, 1) := by decide +kernel
theorem dX8_read_11 : decode cX8_read 11 = .ok (.aload_n 0, 1) := by decide +kernel
theorem dX8_read_12 : decode cX8_read 12 = .ok (.getfield 169, 3) := by decide +kernel
theorem dX8_read_15 : decode cX8_read 15 = .ok (.if_icmp .ge 21, 3) := by decide +kernel
theorem dX8_read_18 : decode cX8_read 18 = .ok (.aload_n 0, 1) := by decide +kernel
theorem dX8_read_19 : decode cX8_read 19 = .ok (.getfield 17, 3) := by decide +kernel
theorem dX8_read_22 : decode cX8_read 22 = .ok (.iload_n 1, 1) := by decide +kernel
theorem dX8_read_23 : decode cX8_read 23 = .ok (.aload_n 0, 1) := by decide +kernel
theorem dX8_read_24 : decode cX8_read 24 = .ok (.getfield 13, 3) := by decide +kernel
theorem dX8_read_27 : decode cX8_read 27 = .ok (.iload_n 1, 1) := by decide +kernel
theorem dX8_read_28 : decode cX8_read 28 = .ok (.baload, 1) := by decide +kernel
theorem dX8_read_29 : decode cX8_read 29 = .ok (.bastore, 1) := by decide +kernel
theorem dX8_read_30 : decode cX8_read 30 = .ok (.iinc 1 1, 3) := by decide +kernel
theorem dX8_read_33 : decode cX8_read 33 = .ok (.goto (-23), 3) := by decide +kernel
theorem dX8_read_36 : decode cX8_read 36 = .ok (.aload_n 0, 1) := by decide +kernel
theorem dX8_read_37 : decode cX8_read 37 = .ok (.iconst 0, 1) := by decide +kernel
theorem dX8_read_38 : decode cX8_read 38 = .ok (.putfield 163, 3) := by decide +kernel
theorem dX8_read_41 : decode cX8_read 41 = .ok (.aload_n 0, 1) := by decide +kernel
theorem dX8_read_42 : decode cX8_read 42 = .ok (.invokevirtual 224, 3) := by decide +kernel
theorem dX8_read_45 : decode cX8_read 45 = .ok (.aload_n 0, 1) := by decide +kernel
theorem dX8_read_46 : decode cX8_read 46 = .ok (.iconst 0, 1) := by decide +kernel
theorem dX8_read_47 : decode cX8_read 47 = .ok (.putfield 203, 3) := by decide +kernel
theorem dX8_read_50 : decode cX8_read 50 = .ok (.aload_n 0, 1) := by decide +kernel
theorem dX8_read_51 : decode cX8_read 51 = .ok (.iconst 0, 1) := by decide +kernel
theorem dX8_read_52 : decode cX8_read 52 = .ok (.putfield 227, 3) := by decide +kernel
theorem dX8_read_55 : decode cX8_read 55 = .ok (.aload_n 0, 1) := by decide +kernel
theorem dX8_read_56 : decode cX8_read 56 = .ok (.iconst 0, 1) := by decide +kernel
theorem dX8_read_57 : decode cX8_read 57 = .ok (.putfield 200, 3) := by decide +kernel
theorem dX8_read_60 : decode cX8_read 60 = .ok (.aload_n 0, 1) := by decide +kernel
theorem dX8_read_61 : decode cX8_read 61 = .ok (.iconst 0, 1) := by decide +kernel
theorem dX8_read_62 : decode cX8_read 62 = .ok (.putfield 209, 3) := by decide +kernel
theorem dX8_read_65 : decode cX8_read 65 = .ok (.aload_n 0, 1) := by decide +kernel
theorem dX8_read_66 : decode cX8_read 66 = .ok (.iconst 1, 1) := by decide +kernel
theorem dX8_read_67 : decode cX8_read 67 = .ok (.aload_n 0, 1) := by decide +kernel
theorem dX8_read_68 : decode cX8_read 68 = .ok (.getfield 230, 3) := by decide +kernel
theorem dX8_read_71 : decode cX8_read 71 = .ok (.isub, 1) := by decide +kernel
theorem dX8_read_72 : decode cX8_read 72 = .ok (.putfield 233, 3) := by decide +kernel
theorem dX8_read_75 : decode cX8_read 75 = .ok (.aload_n 0, 1) := by decide +kernel
theorem dX8_read_76 : decode cX8_read 76 = .ok (.iconst 0, 1) := by decide +kernel
theorem dX8_read_77 : decode cX8_read 77 = .ok (.putfield 236, 3) := by decide +kernel
theorem dX8_read_80 : decode cX8_read 80 = .ok (.aload_n 0, 1) := by decide +kernel
theorem dX8_read_81 : decode cX8_read 81 = .ok (.aload_n 0, 1) := by decide +kernel
theorem dX8_read_82 : decode cX8_read 82 = .ok (.getfield 233, 3) := by decide +kernel
theorem dX8_read_85 : decode cX8_read 85 = .ok (.invokevirtual 149, 3) := by decide +kernel
theorem dX8_read_88 : decode cX8_read 88 = .ok (.aload_n 0, 1) := by decide +kernel
theorem dX8_read_89 : decode cX8_read 89 = .ok (.sipush 130, 3) := by decide +kernel
theorem dX8_read_92 : decode cX8_read 92 = .ok (.aload_n 0, 1) := by decide +kernel
theorem dX8_read_93 : decode cX8_read 93 = .ok (.getfield 233, 3) := by decide +kernel
theorem dX8_read_96 : decode cX8_read 96 = .ok (.imul, 1) := by decide +kernel
theorem dX8_read_97 : decode cX8_read 97 = .ok (.putfield 239, 3) := by decide +kernel
theorem dX8_read_100 : decode cX8_read 100 = .ok (.aload_n 0, 1) := by decide +kernel
theorem dX8_read_101 : decode cX8_read 101 = .ok (.sipush 420, 3) := by decide +kernel
theorem dX8_read_104 : decode cX8_read 104 = .ok (.aload_n 0, 1) := by decide +kernel
theorem dX8_read_105 : decode cX8_read 105 = .ok (.getfield 233, 3) := by decide +kernel
theorem dX8_read_108 : decode cX8_read 108 = .ok (.imul, 1) := by decide +kernel
theorem dX8_read_109 : decode cX8_read 109 = .ok (.putfield 242, 3) := by decide +kernel
theorem dX8_read_112 : decode cX8_read 112 = .ok (.aload_n 0, 1) := by decide +kernel
theorem dX8_read_113 : decode cX8_read 113 = .ok (.getfield 200, 3) := by decide +kernel
theorem dX8_read_116 : decode cX8_read 116 = .ok (.ifCond .ne 18, 3) := by decide +kernel
theorem dX8_read_119 : decode cX8_read 119 = .ok (.aload_n 0, 1) := by decide +kernel
theorem dX8_read_120 : decode cX8_read 120 = .ok (.iconst 0, 1) := by decide +kernel
theorem dX8_read_121 : decode cX8_read 121 = .ok (.invokevirtual 218, 3) := by decide +kernel
theorem dX8_read_124 : decode cX8_read 124 = .ok (.ifCond .ne 10, 3) := by decide +kernel
theorem dX8_read_127 : decode cX8_read 127 = .ok (.aload_n 0, 1) := by decide +kernel
theorem dX8_read_128 : decode cX8_read 128 = .ok (.invokevirtual 245, 3) := by decide +kernel
theorem dX8_read_131 : decode cX8_read 131 = .ok (.goto (-19), 3) := by decide +kernel
theorem dX8_read_134 : decode cX8_read 134 = .ok (.iconst 0, 1) := by decide +kernel
theorem dX8_read_135 : decode cX8_read 135 = .ok (.istore_n 1, 1) := by decide +kernel
theorem dX8_read_136 : decode cX8_read 136 = .ok (.iload_n 1, 1) := by decide +kernel
theorem dX8_read_137 : decode cX8_read 137 = .ok (.aload_n 0, 1) := by decide +kernel
theorem dX8_read_138 : decode cX8_read 138 = .ok (.getfield 52, 3) := by decide +kernel
theorem dX8_read_141 : decode cX8_read 141 = .ok (.aload_n 0, 1) := by decide +kernel
theorem dX8_read_142 : decode cX8_read 142 = .ok (.getfield 233, 3) := by decide +kernel
theorem dX8_read_145 : decode cX8_read 145 = .ok (.iaload, 1) := by decide +kernel
theorem dX8_read_146 : decode cX8_read 146 = .ok (.if_icmp .ge 34, 3) := by decide +kernel
theorem dX8_read_149 : decode cX8_read 149 = .ok (.aload_n 0, 1) := by decide +kernel
theorem dX8_read_150 : decode cX8_read 150 = .ok (.getfield 200, 3) := by decide +kernel
theorem dX8_read_153 : decode cX8_read 153 = .ok (.ifCond .ne 27, 3) := by decide +kernel
theorem dX8_read_156 : decode cX8_read 156 = .ok (.aload_n 0, 1) := by decide +kernel
theorem dX8_read_157 : decode cX8_read 157 = .ok (.iload_n 1, 1) := by decide +kernel
theorem dX8_read_158 : decode cX8_read 158 = .ok (.invokevirtual 248, 3) := by decide +kernel
theorem dX8_read_161 : decode cX8_read 161 = .ok (.ifCond .ne 13, 3) := by decide +kernel
theorem dX8_read_164 : decode cX8_read 164 = .ok (.aload_n 0, 1) := by decide +kernel
theorem dX8_read_165 : decode cX8_read 165 = .ok (.bipush 6, 2) := by decide +kernel
theorem dX8_read_167 : decode cX8_read 167 = .ok (.aload_n 0, 1) := by decide +kernel
theorem dX8_read_168 : decode cX8_read 168 = .ok (.getfield 203, 3) := by decide +kernel
theorem dX8_read_171 : decode cX8_read 171 = .ok (.invokevirtual 251, 3) := by decide +kernel
theorem dX8_read_174 : decode cX8_read 174 = .ok (.iinc 1 1, 3) := by decide +kernel
theorem dX8_read_177 : decode cX8_read 177 = .ok (.goto (-41), 3) := by decide +kernel
theorem dX8_read_180 : decode cX8_read 180 = .ok (.aload_n 0, 1) := by decide +kernel
theorem dX8_read_181 : decode cX8_read 181 = .ok (.aload_n 0, 1) := by decide +kernel
theorem dX8_read_182 : decode cX8_read 182 = .ok (.getfield 200, 3) := by decide +kernel
theorem dX8_read_185 : decode cX8_read 185 = .ok (.ifCond .le 10, 3) := by decide +kernel
theorem dX8_read_188 : decode cX8_read 188 = .ok (.aload_n 0, 1) := by decide +kernel
theorem dX8_read_189 : decode cX8_read 189 = .ok (.getfield 206, 3) := by decide +kernel
theorem dX8_read_192 : decode cX8_read 192 = .ok (.goto 18, 3) := by decide +kernel
theorem dX8_read_195 : decode cX8_read 195 = .ok (.aload_n 0, 1) := by decide +kernel
theorem dX8_read_196 : decode cX8_read 196 = .ok (.getfield 209, 3) := by decide +kernel
theorem dX8_read_199 : decode cX8_read 199 = .ok (.ifCond .le 10, 3) := by decide +kernel
theorem dX8_read_202 : decode cX8_read 202 = .ok (.aload_n 0, 1) := by decide +kernel
theorem dX8_read_203 : decode cX8_read 203 = .ok (.getfield 212, 3) := by decide +kernel
theorem dX8_read_206 : decode cX8_read 206 = .ok (.goto 4, 3) := by decide +kernel
theorem dX8_read_209 : decode cX8_read 209 = .ok (.iconst (-1), 1) := by decide +kernel
theorem dX8_read_210 : decode cX8_read 210 = .ok (.putfield 37, 3) := by decide +kernel
theorem dX8_read_213 : decode cX8_read 213 = .ok (.aload_n 0, 1) := by decide +kernel
theorem dX8_read_214 : decode cX8_read 214 = .ok (.getfield 200, 3) := by decide +kernel
theorem dX8_read_217 : decode cX8_read 217 = .ok (.ifCond .le 8, 3) := by decide +kernel
theorem dX8_read_220 : decode cX8_read 220 = .ok (.aload_n 0, 1) := by decide +kernel
theorem dX8_read_221 : decode cX8_read 221 = .ok (.getfield 200, 3) := by decide +kernel
theorem dX8_read_224 : decode cX8_read 224 = .ok (.ireturn, 1) := by decide +kernel
theorem dX8_read_225 : decode cX8_read 225 = .ok (.aload_n 0, 1) := by decide +kernel
theorem dX8_read_226 : decode cX8_read 226 = .ok (.getfield 209, 3) := by decide +kernel
theorem dX8_read_229 : decode cX8_read 229 = .ok (.ifCond .le 8, 3) := by decide +kernel
theorem dX8_read_232 : decode cX8_read 232 = .ok (.aload_n 0, 1) := by decide +kernel
theorem dX8_read_233 : decode cX8_read 233 = .ok (.getfield 209, 3) := by decide +kernel
theorem dX8_read_236 : decode cX8_read 236 = .ok (.ireturn, 1) := by decide +kernel
theorem dX8_read_237 : decode cX8_read 237 = .ok (.aload_n 0, 1) := by decide +kernel
theorem dX8_read_238 : decode cX8_read 238 = .ok (.aload_n 0, 1) := by decide +kernel
theorem dX8_read_239 : decode cX8_read 239 = .ok (.getfield 233, 3) := by decide +kernel
theorem dX8_read_242 : decode cX8_read 242 = .ok (.putfield 230, 3) := by decide +kernel
theorem dX8_read_245 : decode cX8_read 245 = .ok (.aload_n 0, 1) := by decide +kernel
theorem dX8_read_246 : decode cX8_read 246 = .ok (.invokevirtual 157, 3) := by decide +kernel
theorem dX8_read_249 : decode cX8_read 249 = .ok (.aload_n 0, 1) := by decide +kernel
theorem dX8_read_250 : decode cX8_read 250 = .ok (.invokevirtual 160, 3) := by decide +kernel
theorem dX8_read_253 : decode cX8_read 253 = .ok (.aload_n 0, 1) := by decide +kernel
theorem dX8_read_254 : decode cX8_read 254 = .ok (.iconst 0, 1) := by decide +kernel
theorem dX8_read_255 : decode cX8_read 255 = .ok (.putfield 255, 3) := by decide +kernel
theorem dX8_read_258 : decode cX8_read 258 = .ok (.aload_n 0, 1) := by decide +kernel
theorem dX8_read_259 : decode cX8_read 259 = .ok (.iconst 0, 1) := by decide +kernel
theorem dX8_read_260 : decode cX8_read 260 = .ok (.putfield 258, 3) := by decide +kernel
theorem dX8_read_263 : decode cX8_read 263 = .ok (.iconst 0, 1) := by decide +kernel
theorem dX8_read_264 : decode cX8_read 264 = .ok (.istore_n 1, 1) := by decide +kernel
theorem dX8_read_265 : decode cX8_read 265 = .ok (.iload_n 1, 1) := by decide +kernel
theorem dX8_read_266 : decode cX8_read 266 = .ok (.iconst 3, 1) := by decide +kernel
theorem dX8_read_267 : decode cX8_read 267 = .ok (.if_icmp .ge 16, 3) := by decide +kernel
theorem dX8_read_270 : decode cX8_read 270 = .ok (.aload_n 0, 1) := by decide +kernel
theorem dX8_read_271 : decode cX8_read 271 = .ok (.getfield 143, 3) := by decide +kernel
theorem dX8_read_274 : decode cX8_read 274 = .ok (.iload_n 1, 1) := by decide +kernel
theorem dX8_read_275 : decode cX8_read 275 = .ok (.iconst 0, 1) := by decide +kernel
theorem dX8_read_276 : decode cX8_read 276 = .ok (.bastore, 1) := by decide +kernel
theorem dX8_read_277 : decode cX8_read 277 = .ok (.iinc 1 1, 3) := by decide +kernel
theorem dX8_read_280 : decode cX8_read 280 = .ok (.goto (-15), 3) := by decide +kernel
theorem dX8_read_283 : decode cX8_read 283 = .ok (.iconst 0, 1) := by decide +kernel
theorem dX8_read_284 : decode cX8_read 284 = .ok (.ireturn, 1) := by decide +kernel
theorem dX8_place_0 : decode cX8_place 0 = .ok (.aload_n 0, 1) := by decide +kernel
theorem dX8_place_1 : decode cX8_place 1 = .ok (.getfield 37, 3) := by decide +kernel
theorem dX8_place_4 : decode cX8_place 4 = .ok (.ireturn, 1) := by decide +kernel
theorem dX8_isAfloat_0 : decode cX8_isAfloat 0 = .ok (.aload_n 0, 1) := by decide +kernel
theorem dX8_isAfloat_1 : decode cX8_isAfloat 1 = .ok (.getfield 55, 3) := by decide +kernel
theorem dX8_isAfloat_4 : decode cX8_isAfloat 4 = .ok (.bipush 6, 2) := by decide +kernel
theorem dX8_isAfloat_6 : decode cX8_isAfloat 6 = .ok (.aload_n 0, 1) := by decide +kernel
theorem dX8_isAfloat_7 : decode cX8_isAfloat 7 = .ok (.getfield 233, 3) := by decide +kernel
theorem dX8_isAfloat_10 : decode cX8_isAfloat 10 = .ok (.imul, 1) := by decide +kernel
theorem dX8_isAfloat_11 : decode cX8_isAfloat 11 = .ok (.iload_n 1, 1) := by decide +kernel
theorem dX8_isAfloat_12 : decode cX8_isAfloat 12 = .ok (.iadd, 1) := by decide +kernel
theorem dX8_isAfloat_13 : decode cX8_isAfloat 13 = .ok (.iaload, 1) := by decide +kernel
theorem dX8_isAfloat_14 : decode cX8_isAfloat 14 = .ok (.istore_n 2, 1) := by decide +kernel
theorem dX8_isAfloat_15 : decode cX8_isAfloat 15 = .ok (.aload_n 0, 1) := by decide +kernel
theorem dX8_isAfloat_16 : decode cX8_isAfloat 16 = .ok (.getfield 58, 3) := by decide +kernel
theorem dX8_isAfloat_19 : decode cX8_isAfloat 19 = .ok (.bipush 6, 2) := by decide +kernel
theorem dX8_isAfloat_21 : decode cX8_isAfloat 21 = .ok (.aload_n 0, 1) := by decide +kernel
theorem dX8_isAfloat_22 : decode cX8_isAfloat 22 = .ok (.getfield 233, 3) := by decide +kernel
theorem dX8_isAfloat_25 : decode cX8_isAfloat 25 = .ok (.imul, 1) := by decide +kernel
theorem dX8_isAfloat_26 : decode cX8_isAfloat 26 = .ok (.iload_n 1, 1) := by decide +kernel
theorem dX8_isAfloat_27 : decode cX8_isAfloat 27 = .ok (.iadd, 1) := by decide +kernel
theorem dX8_isAfloat_28 : decode cX8_isAfloat 28 = .ok (.iaload, 1) := by decide +kernel
theorem dX8_isAfloat_29 : decode cX8_isAfloat 29 = .ok (.istore_n 3, 1) := by decide +kernel
theorem dX8_isAfloat_30 : decode cX8_isAfloat 30 = .ok (.iload_n 2, 1) := by decide +kernel
theorem dX8_isAfloat_31 : decode cX8_isAfloat 31 = .ok (.aload_n 0, 1) := by decide +kernel
theorem dX8_isAfloat_32 : decode cX8_isAfloat 32 = .ok (.getfield 46, 3) := by decide +kernel
theorem dX8_isAfloat_35 : decode cX8_isAfloat 35 = .ok (.aload_n 0, 1) := by decide +kernel
theorem dX8_isAfloat_36 : decode cX8_isAfloat 36 = .ok (.getfield 233, 3) := by decide +kernel
theorem dX8_isAfloat_39 : decode cX8_isAfloat 39 = .ok (.iaload, 1) := by decide +kernel
theorem dX8_isAfloat_40 : decode cX8_isAfloat 40 = .ok (.if_icmp .ge 43, 3) := by decide +kernel
theorem dX8_isAfloat_43 : decode cX8_isAfloat 43 = .ok (.iload_n 3, 1) := by decide +kernel
theorem dX8_isAfloat_44 : decode cX8_isAfloat 44 = .ok (.aload_n 0, 1) := by decide +kernel
theorem dX8_isAfloat_45 : decode cX8_isAfloat 45 = .ok (.getfield 43, 3) := by decide +kernel
theorem dX8_isAfloat_48 : decode cX8_isAfloat 48 = .ok (.aload_n 0, 1) := by decide +kernel
theorem dX8_isAfloat_49 : decode cX8_isAfloat 49 = .ok (.getfield 233, 3) := by decide +kernel
theorem dX8_isAfloat_52 : decode cX8_isAfloat 52 = .ok (.iaload, 1) := by decide +kernel
theorem dX8_isAfloat_53 : decode cX8_isAfloat 53 = .ok (.if_icmp .ge 30, 3) := by decide +kernel
theorem dX8_isAfloat_56 : decode cX8_isAfloat 56 = .ok (.aload_n 0, 1) := by decide +kernel
theorem dX8_isAfloat_57 : decode cX8_isAfloat 57 = .ok (.getfield 49, 3) := by decide +kernel
theorem dX8_isAfloat_60 : decode cX8_isAfloat 60 = .ok (.bipush 40, 2) := by decide +kernel
theorem dX8_isAfloat_62 : decode cX8_isAfloat 62 = .ok (.aload_n 0, 1) := by decide +kernel
theorem dX8_isAfloat_63 : decode cX8_isAfloat 63 = .ok (.getfield 233, 3) := by decide +kernel
theorem dX8_isAfloat_66 : decode cX8_isAfloat 66 = .ok (.imul, 1) := by decide +kernel
theorem dX8_isAfloat_67 : decode cX8_isAfloat 67 = .ok (.bipush 8, 2) := by decide +kernel
theorem dX8_isAfloat_69 : decode cX8_isAfloat 69 = .ok (.iload_n 3, 1) := by decide +kernel
theorem dX8_isAfloat_70 : decode cX8_isAfloat 70 = .ok (.imul, 1) := by decide +kernel
theorem dX8_isAfloat_71 : decode cX8_isAfloat 71 = .ok (.iadd, 1) := by decide +kernel
theorem dX8_isAfloat_72 : decode cX8_isAfloat 72 = .ok (.iload_n 2, 1) := by decide +kernel
theorem dX8_isAfloat_73 : decode cX8_isAfloat 73 = .ok (.iadd, 1) := by decide +kernel
theorem dX8_isAfloat_74 : decode cX8_isAfloat 74 = .ok (.iaload, 1) := by decide +kernel
theorem dX8_isAfloat_75 : decode cX8_isAfloat 75 = .ok (.iconst 1, 1) := by decide +kernel
theorem dX8_isAfloat_76 : decode cX8_isAfloat 76 = .ok (.if_icmp .eq 7, 3) := by decide +kernel
theorem dX8_isAfloat_79 : decode cX8_isAfloat 79 = .ok (.iconst 1, 1) := by decide +kernel
theorem dX8_isAfloat_80 : decode cX8_isAfloat 80 = .ok (.goto 4, 3) := by decide +kernel
theorem dX8_isAfloat_83 : decode cX8_isAfloat 83 = .ok (.iconst 0, 1) := by decide +kernel
theorem dX8_isAfloat_84 : decode cX8_isAfloat 84 = .ok (.ireturn, 1) := by decide +kernel
theorem dX8_tellOne_0 : decode cX8_tellOne 0 = .ok (.aload_n 0, 1) := by decide +kernel
theorem dX8_tellOne_1 : decode cX8_tellOne 1 = .ok (.getfield 20, 3) := by decide +kernel
theorem dX8_tellOne_4 : decode cX8_tellOne 4 = .ok (.aload_n 0, 1) := by decide +kernel
theorem dX8_tellOne_5 : decode cX8_tellOne 5 = .ok (.getfield 203, 3) := by decide +kernel
theorem dX8_tellOne_8 : decode cX8_tellOne 8 = .ok (.iaload, 1) := by decide +kernel
theorem dX8_tellOne_9 : decode cX8_tellOne 9 = .ok (.tableswitch 165 20 26 #[43, 75, 165, 165, 165, 108, 136], 43) := by decide +kernel
theorem dX8_tellOne_52 : decode cX8_tellOne 52 = .ok (.aload_n 0, 1) := by decide +kernel
theorem dX8_tellOne_53 : decode cX8_tellOne 53 = .ok (.getfield 43, 3) := by decide +kernel
theorem dX8_tellOne_56 : decode cX8_tellOne 56 = .ok (.aload_n 0, 1) := by decide +kernel
theorem dX8_tellOne_57 : decode cX8_tellOne 57 = .ok (.getfield 233, 3) := by decide +kernel
theorem dX8_tellOne_60 : decode cX8_tellOne 60 = .ok (.iaload, 1) := by decide +kernel
theorem dX8_tellOne_61 : decode cX8_tellOne 61 = .ok (.iconst 5, 1) := by decide +kernel
theorem dX8_tellOne_62 : decode cX8_tellOne 62 = .ok (.if_icmp .ne 8, 3) := by decide +kernel
theorem dX8_tellOne_65 : decode cX8_tellOne 65 = .ok (.aload_n 0, 1) := by decide +kernel
theorem dX8_tellOne_66 : decode cX8_tellOne 66 = .ok (.iconst 2, 1) := by decide +kernel
theorem dX8_tellOne_67 : decode cX8_tellOne 67 = .ok (.invokevirtual 215, 3) := by decide +kernel
theorem dX8_tellOne_70 : decode cX8_tellOne 70 = .ok (.aload_n 0, 1) := by decide +kernel
theorem dX8_tellOne_71 : decode cX8_tellOne 71 = .ok (.getfield 200, 3) := by decide +kernel
theorem dX8_tellOne_74 : decode cX8_tellOne 74 = .ok (.ifCond .ne 153, 3) := by decide +kernel
theorem dX8_tellOne_77 : decode cX8_tellOne 77 = .ok (.aload_n 0, 1) := by decide +kernel
theorem dX8_tellOne_78 : decode cX8_tellOne 78 = .ok (.invokevirtual 261, 3) := by decide +kernel
theorem dX8_tellOne_81 : decode cX8_tellOne 81 = .ok (.goto 146, 3) := by decide +kernel
theorem dX8_tellOne_84 : decode cX8_tellOne 84 = .ok (.aload_n 0, 1) := by decide +kernel
theorem dX8_tellOne_85 : decode cX8_tellOne 85 = .ok (.getfield 52, 3) := by decide +kernel
theorem dX8_tellOne_88 : decode cX8_tellOne 88 = .ok (.aload_n 0, 1) := by decide +kernel
theorem dX8_tellOne_89 : decode cX8_tellOne 89 = .ok (.getfield 233, 3) := by decide +kernel
theorem dX8_tellOne_92 : decode cX8_tellOne 92 = .ok (.iaload, 1) := by decide +kernel
theorem dX8_tellOne_93 : decode cX8_tellOne 93 = .ok (.bipush 6, 2) := by decide +kernel
theorem dX8_tellOne_95 : decode cX8_tellOne 95 = .ok (.if_icmp .ne 8, 3) := by decide +kernel
theorem dX8_tellOne_98 : decode cX8_tellOne 98 = .ok (.aload_n 0, 1) := by decide +kernel
theorem dX8_tellOne_99 : decode cX8_tellOne 99 = .ok (.iconst 2, 1) := by decide +kernel
theorem dX8_tellOne_100 : decode cX8_tellOne 100 = .ok (.invokevirtual 215, 3) := by decide +kernel
theorem dX8_tellOne_103 : decode cX8_tellOne 103 = .ok (.aload_n 0, 1) := by decide +kernel
theorem dX8_tellOne_104 : decode cX8_tellOne 104 = .ok (.getfield 200, 3) := by decide +kernel
theorem dX8_tellOne_107 : decode cX8_tellOne 107 = .ok (.ifCond .ne 120, 3) := by decide +kernel
theorem dX8_tellOne_110 : decode cX8_tellOne 110 = .ok (.aload_n 0, 1) := by decide +kernel
theorem dX8_tellOne_111 : decode cX8_tellOne 111 = .ok (.invokevirtual 264, 3) := by decide +kernel
theorem dX8_tellOne_114 : decode cX8_tellOne 114 = .ok (.goto 113, 3) := by decide +kernel
theorem dX8_tellOne_117 : decode cX8_tellOne 117 = .ok (.aload_n 0, 1) := by decide +kernel
theorem dX8_tellOne_118 : decode cX8_tellOne 118 = .ok (.invokevirtual 221, 3) := by decide +kernel
theorem dX8_tellOne_121 : decode cX8_tellOne 121 = .ok (.aload_n 0, 1) := by decide +kernel
theorem dX8_tellOne_122 : decode cX8_tellOne 122 = .ok (.getfield 67, 3) := by decide +kernel
theorem dX8_tellOne_125 : decode cX8_tellOne 125 = .ok (.aload_n 0, 1) := by decide +kernel
theorem dX8_tellOne_126 : decode cX8_tellOne 126 = .ok (.getfield 233, 3) := by decide +kernel
theorem dX8_tellOne_129 : decode cX8_tellOne 129 = .ok (.aload_n 0, 1) := by decide +kernel
theorem dX8_tellOne_130 : decode cX8_tellOne 130 = .ok (.iconst 0, 1) := by decide +kernel
theorem dX8_tellOne_131 : decode cX8_tellOne 131 = .ok (.bipush 100, 2) := by decide +kernel
theorem dX8_tellOne_133 : decode cX8_tellOne 133 = .ok (.invokevirtual 267, 3) := by decide +kernel
theorem dX8_tellOne_136 : decode cX8_tellOne 136 = .ok (.iastore, 1) := by decide +kernel
theorem dX8_tellOne_137 : decode cX8_tellOne 137 = .ok (.aload_n 0, 1) := by decide +kernel
theorem dX8_tellOne_138 : decode cX8_tellOne 138 = .ok (.iconst 4, 1) := by decide +kernel
theorem dX8_tellOne_139 : decode cX8_tellOne 139 = .ok (.invokevirtual 271, 3) := by decide +kernel
theorem dX8_tellOne_142 : decode cX8_tellOne 142 = .ok (.goto 85, 3) := by decide +kernel
theorem dX8_tellOne_145 : decode cX8_tellOne 145 = .ok (.aload_n 0, 1) := by decide +kernel
theorem dX8_tellOne_146 : decode cX8_tellOne 146 = .ok (.invokevirtual 221, 3) := by decide +kernel
theorem dX8_tellOne_149 : decode cX8_tellOne 149 = .ok (.aload_n 0, 1) := by decide +kernel
theorem dX8_tellOne_150 : decode cX8_tellOne 150 = .ok (.getfield 70, 3) := by decide +kernel
theorem dX8_tellOne_153 : decode cX8_tellOne 153 = .ok (.aload_n 0, 1) := by decide +kernel
theorem dX8_tellOne_154 : decode cX8_tellOne 154 = .ok (.getfield 233, 3) := by decide +kernel
theorem dX8_tellOne_157 : decode cX8_tellOne 157 = .ok (.aload_n 0, 1) := by decide +kernel
theorem dX8_tellOne_158 : decode cX8_tellOne 158 = .ok (.iconst 0, 1) := by decide +kernel
theorem dX8_tellOne_159 : decode cX8_tellOne 159 = .ok (.sipush 9999, 3) := by decide +kernel
theorem dX8_tellOne_162 : decode cX8_tellOne 162 = .ok (.invokevirtual 267, 3) := by decide +kernel
theorem dX8_tellOne_165 : decode cX8_tellOne 165 = .ok (.iastore, 1) := by decide +kernel
theorem dX8_tellOne_166 : decode cX8_tellOne 166 = .ok (.aload_n 0, 1) := by decide +kernel
theorem dX8_tellOne_167 : decode cX8_tellOne 167 = .ok (.iconst 4, 1) := by decide +kernel
theorem dX8_tellOne_168 : decode cX8_tellOne 168 = .ok (.invokevirtual 271, 3) := by decide +kernel
theorem dX8_tellOne_171 : decode cX8_tellOne 171 = .ok (.goto 56, 3) := by decide +kernel
theorem dX8_tellOne_174 : decode cX8_tellOne 174 = .ok (.aload_n 0, 1) := by decide +kernel
theorem dX8_tellOne_175 : decode cX8_tellOne 175 = .ok (.getfield 20, 3) := by decide +kernel
theorem dX8_tellOne_178 : decode cX8_tellOne 178 = .ok (.aload_n 0, 1) := by decide +kernel
theorem dX8_tellOne_179 : decode cX8_tellOne 179 = .ok (.getfield 203, 3) := by decide +kernel
theorem dX8_tellOne_182 : decode cX8_tellOne 182 = .ok (.iaload, 1) := by decide +kernel
theorem dX8_tellOne_183 : decode cX8_tellOne 183 = .ok (.bipush 22, 2) := by decide +kernel
theorem dX8_tellOne_185 : decode cX8_tellOne 185 = .ok (.isub, 1) := by decide +kernel
theorem dX8_tellOne_186 : decode cX8_tellOne 186 = .ok (.istore_n 1, 1) := by decide +kernel
theorem dX8_tellOne_187 : decode cX8_tellOne 187 = .ok (.iload_n 1, 1) := by decide +kernel
theorem dX8_tellOne_188 : decode cX8_tellOne 188 = .ok (.ifCond .lt 17, 3) := by decide +kernel
theorem dX8_tellOne_191 : decode cX8_tellOne 191 = .ok (.aload_n 0, 1) := by decide +kernel
theorem dX8_tellOne_192 : decode cX8_tellOne 192 = .ok (.getfield 20, 3) := by decide +kernel
theorem dX8_tellOne_195 : decode cX8_tellOne 195 = .ok (.aload_n 0, 1) := by decide +kernel
theorem dX8_tellOne_196 : decode cX8_tellOne 196 = .ok (.getfield 203, 3) := by decide +kernel
theorem dX8_tellOne_199 : decode cX8_tellOne 199 = .ok (.iaload, 1) := by decide +kernel
theorem dX8_tellOne_200 : decode cX8_tellOne 200 = .ok (.bipush 24, 2) := by decide +kernel
theorem dX8_tellOne_202 : decode cX8_tellOne 202 = .ok (.if_icmp .le 8, 3) := by decide +kernel
theorem dX8_tellOne_205 : decode cX8_tellOne 205 = .ok (.aload_n 0, 1) := by decide +kernel
theorem dX8_tellOne_206 : decode cX8_tellOne 206 = .ok (.iconst 1, 1) := by decide +kernel
theorem dX8_tellOne_207 : decode cX8_tellOne 207 = .ok (.invokevirtual 215, 3) := by decide +kernel
theorem dX8_tellOne_210 : decode cX8_tellOne 210 = .ok (.aload_n 0, 1) := by decide +kernel
theorem dX8_tellOne_211 : decode cX8_tellOne 211 = .ok (.getfield 200, 3) := by decide +kernel
theorem dX8_tellOne_214 : decode cX8_tellOne 214 = .ok (.ifCond .le 4, 3) := by decide +kernel
theorem dX8_tellOne_217 : decode cX8_tellOne 217 = .ok (.return_, 1) := by decide +kernel
theorem dX8_tellOne_218 : decode cX8_tellOne 218 = .ok (.aload_n 0, 1) := by decide +kernel
theorem dX8_tellOne_219 : decode cX8_tellOne 219 = .ok (.invokevirtual 221, 3) := by decide +kernel
theorem dX8_tellOne_222 : decode cX8_tellOne 222 = .ok (.aload_n 0, 1) := by decide +kernel
theorem dX8_tellOne_223 : decode cX8_tellOne 223 = .ok (.iload_n 1, 1) := by decide +kernel
theorem dX8_tellOne_224 : decode cX8_tellOne 224 = .ok (.invokevirtual 274, 3) := by decide +kernel
theorem dX8_tellOne_227 : decode cX8_tellOne 227 = .ok (.return_, 1) := by decide +kernel
theorem dX8_bounded_0 : decode cX8_bounded 0 = .ok (.aload_n 0, 1) := by decide +kernel
theorem dX8_bounded_1 : decode cX8_bounded 1 = .ok (.getfield 200, 3) := by decide +kernel
theorem dX8_bounded_4 : decode cX8_bounded 4 = .ok (.ifCond .gt 11, 3) := by decide +kernel
theorem dX8_bounded_7 : decode cX8_bounded 7 = .ok (.aload_n 0, 1) := by decide +kernel
theorem dX8_bounded_8 : decode cX8_bounded 8 = .ok (.iconst 2, 1) := by decide +kernel
theorem dX8_bounded_9 : decode cX8_bounded 9 = .ok (.invokevirtual 218, 3) := by decide +kernel
theorem dX8_bounded_12 : decode cX8_bounded 12 = .ok (.ifCond .ne 10, 3) := by decide +kernel
theorem dX8_bounded_15 : decode cX8_bounded 15 = .ok (.aload_n 0, 1) := by decide +kernel
theorem dX8_bounded_16 : decode cX8_bounded 16 = .ok (.iconst 1, 1) := by decide +kernel
theorem dX8_bounded_17 : decode cX8_bounded 17 = .ok (.invokevirtual 215, 3) := by decide +kernel
theorem dX8_bounded_20 : decode cX8_bounded 20 = .ok (.iload_n 1, 1) := by decide +kernel
theorem dX8_bounded_21 : decode cX8_bounded 21 = .ok (.ireturn, 1) := by decide +kernel
theorem dX8_bounded_22 : decode cX8_bounded 22 = .ok (.aload_n 0, 1) := by decide +kernel
theorem dX8_bounded_23 : decode cX8_bounded 23 = .ok (.getfield 27, 3) := by decide +kernel
theorem dX8_bounded_26 : decode cX8_bounded 26 = .ok (.aload_n 0, 1) := by decide +kernel
theorem dX8_bounded_27 : decode cX8_bounded 27 = .ok (.getfield 203, 3) := by decide +kernel
theorem dX8_bounded_30 : decode cX8_bounded 30 = .ok (.iaload, 1) := by decide +kernel
theorem dX8_bounded_31 : decode cX8_bounded 31 = .ok (.istore_n 3, 1) := by decide +kernel
theorem dX8_bounded_32 : decode cX8_bounded 32 = .ok (.iload_n 3, 1) := by decide +kernel
theorem dX8_bounded_33 : decode cX8_bounded 33 = .ok (.iload_n 1, 1) := by decide +kernel
theorem dX8_bounded_34 : decode cX8_bounded 34 = .ok (.if_icmp .lt 8, 3) := by decide +kernel
theorem dX8_bounded_37 : decode cX8_bounded 37 = .ok (.iload_n 3, 1) := by decide +kernel
theorem dX8_bounded_38 : decode cX8_bounded 38 = .ok (.iload_n 2, 1) := by decide +kernel
theorem dX8_bounded_39 : decode cX8_bounded 39 = .ok (.if_icmp .le 12, 3) := by decide +kernel
theorem dX8_bounded_42 : decode cX8_bounded 42 = .ok (.aload_n 0, 1) := by decide +kernel
theorem dX8_bounded_43 : decode cX8_bounded 43 = .ok (.iconst 5, 1) := by decide +kernel
theorem dX8_bounded_44 : decode cX8_bounded 44 = .ok (.aload_n 0, 1) := by decide +kernel
theorem dX8_bounded_45 : decode cX8_bounded 45 = .ok (.getfield 203, 3) := by decide +kernel
theorem dX8_bounded_48 : decode cX8_bounded 48 = .ok (.invokevirtual 251, 3) := by decide +kernel
theorem dX8_bounded_51 : decode cX8_bounded 51 = .ok (.aload_n 0, 1) := by decide +kernel
theorem dX8_bounded_52 : decode cX8_bounded 52 = .ok (.invokevirtual 221, 3) := by decide +kernel
theorem dX8_bounded_55 : decode cX8_bounded 55 = .ok (.iload_n 3, 1) := by decide +kernel
theorem dX8_bounded_56 : decode cX8_bounded 56 = .ok (.ireturn, 1) := by decide +kernel
theorem dX8_cellBy_0 : decode cX8_cellBy 0 = .ok (.iload_n 0, 1) := by decide +kernel
theorem dX8_cellBy_1 : decode cX8_cellBy 1 = .ok (.bipush 111, 2) := by decide +kernel
theorem dX8_cellBy_3 : decode cX8_cellBy 3 = .ok (.if_icmp .ne 7, 3) := by decide +kernel
theorem dX8_cellBy_6 : decode cX8_cellBy 6 = .ok (.iconst 0, 1) := by decide +kernel
theorem dX8_cellBy_7 : decode cX8_cellBy 7 = .ok (.goto 24, 3) := by decide +kernel
theorem dX8_cellBy_10 : decode cX8_cellBy 10 = .ok (.iload_n 0, 1) := by decide +kernel
theorem dX8_cellBy_11 : decode cX8_cellBy 11 = .ok (.bipush 114, 2) := by decide +kernel
theorem dX8_cellBy_13 : decode cX8_cellBy 13 = .ok (.if_icmp .ne 7, 3) := by decide +kernel
theorem dX8_cellBy_16 : decode cX8_cellBy 16 = .ok (.iconst 1, 1) := by decide +kernel
theorem dX8_cellBy_17 : decode cX8_cellBy 17 = .ok (.goto 14, 3) := by decide +kernel
theorem dX8_cellBy_20 : decode cX8_cellBy 20 = .ok (.iload_n 0, 1) := by decide +kernel
theorem dX8_cellBy_21 : decode cX8_cellBy 21 = .ok (.bipush 109, 2) := by decide +kernel
theorem dX8_cellBy_23 : decode cX8_cellBy 23 = .ok (.if_icmp .ne 7, 3) := by decide +kernel
theorem dX8_cellBy_26 : decode cX8_cellBy 26 = .ok (.iconst 2, 1) := by decide +kernel
theorem dX8_cellBy_27 : decode cX8_cellBy 27 = .ok (.goto 4, 3) := by decide +kernel
theorem dX8_cellBy_30 : decode cX8_cellBy 30 = .ok (.iconst (-1), 1) := by decide +kernel
theorem dX8_cellBy_31 : decode cX8_cellBy 31 = .ok (.ireturn, 1) := by decide +kernel
theorem dX8_tellRow_0 : decode cX8_tellRow 0 = .ok (.aload_n 0, 1) := by decide +kernel
theorem dX8_tellRow_1 : decode cX8_tellRow 1 = .ok (.invokevirtual 221, 3) := by decide +kernel
theorem dX8_tellRow_4 : decode cX8_tellRow 4 = .ok (.aload_n 0, 1) := by decide +kernel
theorem dX8_tellRow_5 : decode cX8_tellRow 5 = .ok (.getfield 203, 3) := by decide +kernel
theorem dX8_tellRow_8 : decode cX8_tellRow 8 = .ok (.istore_n 1, 1) := by decide +kernel
theorem dX8_tellRow_9 : decode cX8_tellRow 9 = .ok (.aload_n 0, 1) := by decide +kernel
theorem dX8_tellRow_10 : decode cX8_tellRow 10 = .ok (.iconst 1, 1) := by decide +kernel
theorem dX8_tellRow_11 : decode cX8_tellRow 11 = .ok (.invokevirtual 271, 3) := by decide +kernel
theorem dX8_tellRow_14 : decode cX8_tellRow 14 = .ok (.aload_n 0, 1) := by decide +kernel
theorem dX8_tellRow_15 : decode cX8_tellRow 15 = .ok (.getfield 200, 3) := by decide +kernel
theorem dX8_tellRow_18 : decode cX8_tellRow 18 = .ok (.ifCond .ne 160, 3) := by decide +kernel
theorem dX8_tellRow_21 : decode cX8_tellRow 21 = .ok (.aload_n 0, 1) := by decide +kernel
theorem dX8_tellRow_22 : decode cX8_tellRow 22 = .ok (.getfield 30, 3) := by decide +kernel
theorem dX8_tellRow_25 : decode cX8_tellRow 25 = .ok (.iload_n 1, 1) := by decide +kernel
theorem dX8_tellRow_26 : decode cX8_tellRow 26 = .ok (.laload, 1) := by decide +kernel
theorem dX8_tellRow_27 : decode cX8_tellRow 27 = .ok (.lstore_n 2, 1) := by decide +kernel
theorem dX8_tellRow_28 : decode cX8_tellRow 28 = .ok (.iconst 0, 1) := by decide +kernel
theorem dX8_tellRow_29 : decode cX8_tellRow 29 = .ok (.istore 4, 2) := by decide +kernel
theorem dX8_tellRow_31 : decode cX8_tellRow 31 = .ok (.lload_n 2, 1) := by decide +kernel
theorem dX8_tellRow_32 : decode cX8_tellRow 32 = .ok (.lstore 5, 2) := by decide +kernel
theorem dX8_tellRow_34 : decode cX8_tellRow 34 = .ok (.lload 5, 2) := by decide +kernel
theorem dX8_tellRow_36 : decode cX8_tellRow 36 = .ok (.lconst 0, 1) := by decide +kernel
theorem dX8_tellRow_37 : decode cX8_tellRow 37 = .ok (.lcmp, 1) := by decide +kernel
theorem dX8_tellRow_38 : decode cX8_tellRow 38 = .ok (.ifCond .le 17, 3) := by decide +kernel
theorem dX8_tellRow_41 : decode cX8_tellRow 41 = .ok (.iinc 4 1, 3) := by decide +kernel
theorem dX8_tellRow_44 : decode cX8_tellRow 44 = .ok (.lload 5, 2) := by decide +kernel
theorem dX8_tellRow_46 : decode cX8_tellRow 46 = .ok (.ldc2_w 172, 3) := by decide +kernel
theorem dX8_tellRow_49 : decode cX8_tellRow 49 = .ok (.ldiv, 1) := by decide +kernel
theorem dX8_tellRow_50 : decode cX8_tellRow 50 = .ok (.lstore 5, 2) := by decide +kernel
theorem dX8_tellRow_52 : decode cX8_tellRow 52 = .ok (.goto (-18), 3) := by decide +kernel
theorem dX8_tellRow_55 : decode cX8_tellRow 55 = .ok (.aload_n 0, 1) := by decide +kernel
theorem dX8_tellRow_56 : decode cX8_tellRow 56 = .ok (.getfield 43, 3) := by decide +kernel
theorem dX8_tellRow_59 : decode cX8_tellRow 59 = .ok (.aload_n 0, 1) := by decide +kernel
theorem dX8_tellRow_60 : decode cX8_tellRow 60 = .ok (.getfield 233, 3) := by decide +kernel
theorem dX8_tellRow_63 : decode cX8_tellRow 63 = .ok (.iaload, 1) := by decide +kernel
theorem dX8_tellRow_64 : decode cX8_tellRow 64 = .ok (.ifCond .ne 14, 3) := by decide +kernel
theorem dX8_tellRow_67 : decode cX8_tellRow 67 = .ok (.aload_n 0, 1) := by decide +kernel
theorem dX8_tellRow_68 : decode cX8_tellRow 68 = .ok (.getfield 46, 3) := by decide +kernel
theorem dX8_tellRow_71 : decode cX8_tellRow 71 = .ok (.aload_n 0, 1) := by decide +kernel
theorem dX8_tellRow_72 : decode cX8_tellRow 72 = .ok (.getfield 233, 3) := by decide +kernel
theorem dX8_tellRow_75 : decode cX8_tellRow 75 = .ok (.iload 4, 2) := by decide +kernel
theorem dX8_tellRow_77 : decode cX8_tellRow 77 = .ok (.iastore, 1) := by decide +kernel
theorem dX8_tellRow_78 : decode cX8_tellRow 78 = .ok (.iload 4, 2) := by decide +kernel
theorem dX8_tellRow_80 : decode cX8_tellRow 80 = .ok (.aload_n 0, 1) := by decide +kernel
theorem dX8_tellRow_81 : decode cX8_tellRow 81 = .ok (.getfield 46, 3) := by decide +kernel
theorem dX8_tellRow_84 : decode cX8_tellRow 84 = .ok (.aload_n 0, 1) := by decide +kernel
theorem dX8_tellRow_85 : decode cX8_tellRow 85 = .ok (.getfield 233, 3) := by decide +kernel
theorem dX8_tellRow_88 : decode cX8_tellRow 88 = .ok (.iaload, 1) := by decide +kernel
theorem dX8_tellRow_89 : decode cX8_tellRow 89 = .ok (.if_icmp .eq 10, 3) := by decide +kernel
theorem dX8_tellRow_92 : decode cX8_tellRow 92 = .ok (.aload_n 0, 1) := by decide +kernel
theorem dX8_tellRow_93 : decode cX8_tellRow 93 = .ok (.bipush 6, 2) := by decide +kernel
theorem dX8_tellRow_95 : decode cX8_tellRow 95 = .ok (.iload_n 1, 1) := by decide +kernel
theorem dX8_tellRow_96 : decode cX8_tellRow 96 = .ok (.invokevirtual 251, 3) := by decide +kernel
theorem dX8_tellRow_99 : decode cX8_tellRow 99 = .ok (.iload 4, 2) := by decide +kernel
theorem dX8_tellRow_101 : decode cX8_tellRow 101 = .ok (.iconst 1, 1) := by decide +kernel
theorem dX8_tellRow_102 : decode cX8_tellRow 102 = .ok (.isub, 1) := by decide +kernel
theorem dX8_tellRow_103 : decode cX8_tellRow 103 = .ok (.istore 5, 2) := by decide +kernel
theorem dX8_tellRow_105 : decode cX8_tellRow 105 = .ok (.iload 5, 2) := by decide +kernel
theorem dX8_tellRow_107 : decode cX8_tellRow 107 = .ok (.ifCond .lt 71, 3) := by decide +kernel
theorem dX8_tellRow_110 : decode cX8_tellRow 110 = .ok (.bipush 96, 2) := by decide +kernel
theorem dX8_tellRow_112 : decode cX8_tellRow 112 = .ok (.lload_n 2, 1) := by decide +kernel
theorem dX8_tellRow_113 : decode cX8_tellRow 113 = .ok (.ldc2_w 172, 3) := by decide +kernel
theorem dX8_tellRow_116 : decode cX8_tellRow 116 = .ok (.lrem, 1) := by decide +kernel
theorem dX8_tellRow_117 : decode cX8_tellRow 117 = .ok (.l2i, 1) := by decide +kernel
theorem dX8_tellRow_118 : decode cX8_tellRow 118 = .ok (.iadd, 1) := by decide +kernel
theorem dX8_tellRow_119 : decode cX8_tellRow 119 = .ok (.invokestatic 277, 3) := by decide +kernel
theorem dX8_tellRow_122 : decode cX8_tellRow 122 = .ok (.istore 6, 2) := by decide +kernel
theorem dX8_tellRow_124 : decode cX8_tellRow 124 = .ok (.iload 6, 2) := by decide +kernel
theorem dX8_tellRow_126 : decode cX8_tellRow 126 = .ok (.ifCond .ge 10, 3) := by decide +kernel
theorem dX8_tellRow_129 : decode cX8_tellRow 129 = .ok (.aload_n 0, 1) := by decide +kernel
theorem dX8_tellRow_130 : decode cX8_tellRow 130 = .ok (.bipush 6, 2) := by decide +kernel
theorem dX8_tellRow_132 : decode cX8_tellRow 132 = .ok (.iload_n 1, 1) := by decide +kernel
theorem dX8_tellRow_133 : decode cX8_tellRow 133 = .ok (.invokevirtual 251, 3) := by decide +kernel
theorem dX8_tellRow_136 : decode cX8_tellRow 136 = .ok (.aload_n 0, 1) := by decide +kernel
theorem dX8_tellRow_137 : decode cX8_tellRow 137 = .ok (.getfield 49, 3) := by decide +kernel
theorem dX8_tellRow_140 : decode cX8_tellRow 140 = .ok (.bipush 40, 2) := by decide +kernel
theorem dX8_tellRow_142 : decode cX8_tellRow 142 = .ok (.aload_n 0, 1) := by decide +kernel
theorem dX8_tellRow_143 : decode cX8_tellRow 143 = .ok (.getfield 233, 3) := by decide +kernel
theorem dX8_tellRow_146 : decode cX8_tellRow 146 = .ok (.imul, 1) := by decide +kernel
theorem dX8_tellRow_147 : decode cX8_tellRow 147 = .ok (.bipush 8, 2) := by decide +kernel
theorem dX8_tellRow_149 : decode cX8_tellRow 149 = .ok (.aload_n 0, 1) := by decide +kernel
theorem dX8_tellRow_150 : decode cX8_tellRow 150 = .ok (.getfield 43, 3) := by decide +kernel
theorem dX8_tellRow_153 : decode cX8_tellRow 153 = .ok (.aload_n 0, 1) := by decide +kernel
theorem dX8_tellRow_154 : decode cX8_tellRow 154 = .ok (.getfield 233, 3) := by decide +kernel
theorem dX8_tellRow_157 : decode cX8_tellRow 157 = .ok (.iaload, 1) := by decide +kernel
theorem dX8_tellRow_158 : decode cX8_tellRow 158 = .ok (.imul, 1) := by decide +kernel
theorem dX8_tellRow_159 : decode cX8_tellRow 159 = .ok (.iadd, 1) := by decide +kernel
theorem dX8_tellRow_160 : decode cX8_tellRow 160 = .ok (.iload 5, 2) := by decide +kernel
theorem dX8_tellRow_162 : decode cX8_tellRow 162 = .ok (.iadd, 1) := by decide +kernel
theorem dX8_tellRow_163 : decode cX8_tellRow 163 = .ok (.iload 6, 2) := by decide +kernel
theorem dX8_tellRow_165 : decode cX8_tellRow 165 = .ok (.iastore, 1) := by decide +kernel
theorem dX8_tellRow_166 : decode cX8_tellRow 166 = .ok (.lload_n 2, 1) := by decide +kernel
theorem dX8_tellRow_167 : decode cX8_tellRow 167 = .ok (.ldc2_w 172, 3) := by decide +kernel
theorem dX8_tellRow_170 : decode cX8_tellRow 170 = .ok (.ldiv, 1) := by decide +kernel
theorem dX8_tellRow_171 : decode cX8_tellRow 171 = .ok (.lstore_n 2, 1) := by decide +kernel
theorem dX8_tellRow_172 : decode cX8_tellRow 172 = .ok (.iinc 5 (-1), 3) := by decide +kernel
theorem dX8_tellRow_175 : decode cX8_tellRow 175 = .ok (.goto (-70), 3) := by decide +kernel
theorem dX8_tellRow_178 : decode cX8_tellRow 178 = .ok (.aload_n 0, 1) := by decide +kernel
theorem dX8_tellRow_179 : decode cX8_tellRow 179 = .ok (.iconst 4, 1) := by decide +kernel
theorem dX8_tellRow_180 : decode cX8_tellRow 180 = .ok (.invokevirtual 271, 3) := by decide +kernel
theorem dX8_tellRow_183 : decode cX8_tellRow 183 = .ok (.aload_n 0, 1) := by decide +kernel
theorem dX8_tellRow_184 : decode cX8_tellRow 184 = .ok (.getfield 200, 3) := by decide +kernel
theorem dX8_tellRow_187 : decode cX8_tellRow 187 = .ok (.ifCond .ne 16, 3) := by decide +kernel
theorem dX8_tellRow_190 : decode cX8_tellRow 190 = .ok (.aload_n 0, 1) := by decide +kernel
theorem dX8_tellRow_191 : decode cX8_tellRow 191 = .ok (.getfield 43, 3) := by decide +kernel
theorem dX8_tellRow_194 : decode cX8_tellRow 194 = .ok (.aload_n 0, 1) := by decide +kernel
theorem dX8_tellRow_195 : decode cX8_tellRow 195 = .ok (.getfield 233, 3) := by decide +kernel
theorem dX8_tellRow_198 : decode cX8_tellRow 198 = .ok (.dup2, 1) := by decide +kernel
theorem dX8_tellRow_199 : decode cX8_tellRow 199 = .ok (.iaload, 1) := by decide +kernel
theorem dX8_tellRow_200 : decode cX8_tellRow 200 = .ok (.iconst 1, 1) := by decide +kernel
theorem dX8_tellRow_201 : decode cX8_tellRow 201 = .ok (.iadd, 1) := by decide +kernel
theorem dX8_tellRow_202 : decode cX8_tellRow 202 = .ok (.iastore, 1) := by decide +kernel
theorem dX8_tellRow_203 : decode cX8_tellRow 203 = .ok (.return_, 1) := by decide +kernel
theorem dX8_tellBoat_0 : decode cX8_tellBoat 0 = .ok (.aload_n 0, 1) := by decide +kernel
theorem dX8_tellBoat_1 : decode cX8_tellBoat 1 = .ok (.invokevirtual 221, 3) := by decide +kernel
theorem dX8_tellBoat_4 : decode cX8_tellBoat 4 = .ok (.bipush 6, 2) := by decide +kernel
theorem dX8_tellBoat_6 : decode cX8_tellBoat 6 = .ok (.aload_n 0, 1) := by decide +kernel
theorem dX8_tellBoat_7 : decode cX8_tellBoat 7 = .ok (.getfield 233, 3) := by decide +kernel
theorem dX8_tellBoat_10 : decode cX8_tellBoat 10 = .ok (.imul, 1) := by decide +kernel
theorem dX8_tellBoat_11 : decode cX8_tellBoat 11 = .ok (.aload_n 0, 1) := by decide +kernel
theorem dX8_tellBoat_12 : decode cX8_tellBoat 12 = .ok (.getfield 52, 3) := by decide +kernel
theorem dX8_tellBoat_15 : decode cX8_tellBoat 15 = .ok (.aload_n 0, 1) := by decide +kernel
theorem dX8_tellBoat_16 : decode cX8_tellBoat 16 = .ok (.getfield 233, 3) := by decide +kernel
theorem dX8_tellBoat_19 : decode cX8_tellBoat 19 = .ok (.iaload, 1) := by decide +kernel
theorem dX8_tellBoat_20 : decode cX8_tellBoat 20 = .ok (.iadd, 1) := by decide +kernel
theorem dX8_tellBoat_21 : decode cX8_tellBoat 21 = .ok (.istore_n 1, 1) := by decide +kernel
theorem dX8_tellBoat_22 : decode cX8_tellBoat 22 = .ok (.aload_n 0, 1) := by decide +kernel
theorem dX8_tellBoat_23 : decode cX8_tellBoat 23 = .ok (.getfield 203, 3) := by decide +kernel
theorem dX8_tellBoat_26 : decode cX8_tellBoat 26 = .ok (.istore_n 2, 1) := by decide +kernel
theorem dX8_tellBoat_27 : decode cX8_tellBoat 27 = .ok (.aload_n 0, 1) := by decide +kernel
theorem dX8_tellBoat_28 : decode cX8_tellBoat 28 = .ok (.iconst 1, 1) := by decide +kernel
theorem dX8_tellBoat_29 : decode cX8_tellBoat 29 = .ok (.invokevirtual 271, 3) := by decide +kernel
theorem dX8_tellBoat_32 : decode cX8_tellBoat 32 = .ok (.iconst 0, 1) := by decide +kernel
theorem dX8_tellBoat_33 : decode cX8_tellBoat 33 = .ok (.istore_n 3, 1) := by decide +kernel
theorem dX8_tellBoat_34 : decode cX8_tellBoat 34 = .ok (.iload_n 3, 1) := by decide +kernel
theorem dX8_tellBoat_35 : decode cX8_tellBoat 35 = .ok (.aload_n 0, 1) := by decide +kernel
theorem dX8_tellBoat_36 : decode cX8_tellBoat 36 = .ok (.getfield 236, 3) := by decide +kernel
theorem dX8_tellBoat_39 : decode cX8_tellBoat 39 = .ok (.if_icmp .ge 38, 3) := by decide +kernel
theorem dX8_tellBoat_42 : decode cX8_tellBoat 42 = .ok (.aload_n 0, 1) := by decide +kernel
theorem dX8_tellBoat_43 : decode cX8_tellBoat 43 = .ok (.getfield 200, 3) := by decide +kernel
theorem dX8_tellBoat_46 : decode cX8_tellBoat 46 = .ok (.ifCond .ne 31, 3) := by decide +kernel
theorem dX8_tellBoat_49 : decode cX8_tellBoat 49 = .ok (.aload_n 0, 1) := by decide +kernel
theorem dX8_tellBoat_50 : decode cX8_tellBoat 50 = .ok (.getfield 40, 3) := by decide +kernel
theorem dX8_tellBoat_53 : decode cX8_tellBoat 53 = .ok (.iload_n 3, 1) := by decide +kernel
theorem dX8_tellBoat_54 : decode cX8_tellBoat 54 = .ok (.laload, 1) := by decide +kernel
theorem dX8_tellBoat_55 : decode cX8_tellBoat 55 = .ok (.aload_n 0, 1) := by decide +kernel
theorem dX8_tellBoat_56 : decode cX8_tellBoat 56 = .ok (.getfield 30, 3) := by decide +kernel
theorem dX8_tellBoat_59 : decode cX8_tellBoat 59 = .ok (.iload_n 2, 1) := by decide +kernel
theorem dX8_tellBoat_60 : decode cX8_tellBoat 60 = .ok (.laload, 1) := by decide +kernel
theorem dX8_tellBoat_61 : decode cX8_tellBoat 61 = .ok (.lcmp, 1) := by decide +kernel
theorem dX8_tellBoat_62 : decode cX8_tellBoat 62 = .ok (.ifCond .ne 9, 3) := by decide +kernel
theorem dX8_tellBoat_65 : decode cX8_tellBoat 65 = .ok (.aload_n 0, 1) := by decide +kernel
theorem dX8_tellBoat_66 : decode cX8_tellBoat 66 = .ok (.iconst 3, 1) := by decide +kernel
theorem dX8_tellBoat_67 : decode cX8_tellBoat 67 = .ok (.iload_n 2, 1) := by decide +kernel
theorem dX8_tellBoat_68 : decode cX8_tellBoat 68 = .ok (.invokevirtual 251, 3) := by decide +kernel
theorem dX8_tellBoat_71 : decode cX8_tellBoat 71 = .ok (.iinc 3 1, 3) := by decide +kernel
theorem dX8_tellBoat_74 : decode cX8_tellBoat 74 = .ok (.goto (-40), 3) := by decide +kernel
theorem dX8_tellBoat_77 : decode cX8_tellBoat 77 = .ok (.aload_n 0, 1) := by decide +kernel
theorem dX8_tellBoat_78 : decode cX8_tellBoat 78 = .ok (.getfield 55, 3) := by decide +kernel
theorem dX8_tellBoat_81 : decode cX8_tellBoat 81 = .ok (.iload_n 1, 1) := by decide +kernel
theorem dX8_tellBoat_82 : decode cX8_tellBoat 82 = .ok (.aload_n 0, 1) := by decide +kernel
theorem dX8_tellBoat_83 : decode cX8_tellBoat 83 = .ok (.iconst 0, 1) := by decide +kernel
theorem dX8_tellBoat_84 : decode cX8_tellBoat 84 = .ok (.bipush 9, 2) := by decide +kernel
theorem dX8_tellBoat_86 : decode cX8_tellBoat 86 = .ok (.invokevirtual 267, 3) := by decide +kernel
theorem dX8_tellBoat_89 : decode cX8_tellBoat 89 = .ok (.iastore, 1) := by decide +kernel
theorem dX8_tellBoat_90 : decode cX8_tellBoat 90 = .ok (.aload_n 0, 1) := by decide +kernel
theorem dX8_tellBoat_91 : decode cX8_tellBoat 91 = .ok (.getfield 58, 3) := by decide +kernel
theorem dX8_tellBoat_94 : decode cX8_tellBoat 94 = .ok (.iload_n 1, 1) := by decide +kernel
theorem dX8_tellBoat_95 : decode cX8_tellBoat 95 = .ok (.aload_n 0, 1) := by decide +kernel
theorem dX8_tellBoat_96 : decode cX8_tellBoat 96 = .ok (.iconst 0, 1) := by decide +kernel
theorem dX8_tellBoat_97 : decode cX8_tellBoat 97 = .ok (.bipush 9, 2) := by decide +kernel
theorem dX8_tellBoat_99 : decode cX8_tellBoat 99 = .ok (.invokevirtual 267, 3) := by decide +kernel
theorem dX8_tellBoat_102 : decode cX8_tellBoat 102 = .ok (.iastore, 1) := by decide +kernel
theorem dX8_tellBoat_103 : decode cX8_tellBoat 103 = .ok (.aload_n 0, 1) := by decide +kernel
theorem dX8_tellBoat_104 : decode cX8_tellBoat 104 = .ok (.getfield 61, 3) := by decide +kernel
theorem dX8_tellBoat_107 : decode cX8_tellBoat 107 = .ok (.iload_n 1, 1) := by decide +kernel
theorem dX8_tellBoat_108 : decode cX8_tellBoat 108 = .ok (.aload_n 0, 1) := by decide +kernel
theorem dX8_tellBoat_109 : decode cX8_tellBoat 109 = .ok (.iconst 0, 1) := by decide +kernel
theorem dX8_tellBoat_110 : decode cX8_tellBoat 110 = .ok (.bipush 9, 2) := by decide +kernel
theorem dX8_tellBoat_112 : decode cX8_tellBoat 112 = .ok (.invokevirtual 267, 3) := by decide +kernel
theorem dX8_tellBoat_115 : decode cX8_tellBoat 115 = .ok (.iastore, 1) := by decide +kernel
theorem dX8_tellBoat_116 : decode cX8_tellBoat 116 = .ok (.aload_n 0, 1) := by decide +kernel
theorem dX8_tellBoat_117 : decode cX8_tellBoat 117 = .ok (.getfield 64, 3) := by decide +kernel
theorem dX8_tellBoat_120 : decode cX8_tellBoat 120 = .ok (.iload_n 1, 1) := by decide +kernel
theorem dX8_tellBoat_121 : decode cX8_tellBoat 121 = .ok (.aload_n 0, 1) := by decide +kernel
theorem dX8_tellBoat_122 : decode cX8_tellBoat 122 = .ok (.iconst 0, 1) := by decide +kernel
theorem dX8_tellBoat_123 : decode cX8_tellBoat 123 = .ok (.bipush 9, 2) := by decide +kernel
theorem dX8_tellBoat_125 : decode cX8_tellBoat 125 = .ok (.invokevirtual 267, 3) := by decide +kernel
theorem dX8_tellBoat_128 : decode cX8_tellBoat 128 = .ok (.iastore, 1) := by decide +kernel
theorem dX8_tellBoat_129 : decode cX8_tellBoat 129 = .ok (.aload_n 0, 1) := by decide +kernel
theorem dX8_tellBoat_130 : decode cX8_tellBoat 130 = .ok (.iconst 4, 1) := by decide +kernel
theorem dX8_tellBoat_131 : decode cX8_tellBoat 131 = .ok (.invokevirtual 271, 3) := by decide +kernel
theorem dX8_tellBoat_134 : decode cX8_tellBoat 134 = .ok (.aload_n 0, 1) := by decide +kernel
theorem dX8_tellBoat_135 : decode cX8_tellBoat 135 = .ok (.getfield 200, 3) := by decide +kernel
theorem dX8_tellBoat_138 : decode cX8_tellBoat 138 = .ok (.ifCond .le 4, 3) := by decide +kernel
theorem dX8_tellBoat_141 : decode cX8_tellBoat 141 = .ok (.return_, 1) := by decide +kernel
theorem dX8_tellBoat_142 : decode cX8_tellBoat 142 = .ok (.aload_n 0, 1) := by decide +kernel
theorem dX8_tellBoat_143 : decode cX8_tellBoat 143 = .ok (.getfield 40, 3) := by decide +kernel
theorem dX8_tellBoat_146 : decode cX8_tellBoat 146 = .ok (.aload_n 0, 1) := by decide +kernel
theorem dX8_tellBoat_147 : decode cX8_tellBoat 147 = .ok (.getfield 236, 3) := by decide +kernel
theorem dX8_tellBoat_150 : decode cX8_tellBoat 150 = .ok (.aload_n 0, 1) := by decide +kernel
theorem dX8_tellBoat_151 : decode cX8_tellBoat 151 = .ok (.getfield 30, 3) := by decide +kernel
theorem dX8_tellBoat_154 : decode cX8_tellBoat 154 = .ok (.iload_n 2, 1) := by decide +kernel
theorem dX8_tellBoat_155 : decode cX8_tellBoat 155 = .ok (.laload, 1) := by decide +kernel
theorem dX8_tellBoat_156 : decode cX8_tellBoat 156 = .ok (.lastore, 1) := by decide +kernel
theorem dX8_tellBoat_157 : decode cX8_tellBoat 157 = .ok (.aload_n 0, 1) := by decide +kernel
theorem dX8_tellBoat_158 : decode cX8_tellBoat 158 = .ok (.dup, 1) := by decide +kernel
theorem dX8_tellBoat_159 : decode cX8_tellBoat 159 = .ok (.getfield 236, 3) := by decide +kernel
theorem dX8_tellBoat_162 : decode cX8_tellBoat 162 = .ok (.iconst 1, 1) := by decide +kernel
theorem dX8_tellBoat_163 : decode cX8_tellBoat 163 = .ok (.iadd, 1) := by decide +kernel
theorem dX8_tellBoat_164 : decode cX8_tellBoat 164 = .ok (.putfield 236, 3) := by decide +kernel
theorem dX8_tellBoat_167 : decode cX8_tellBoat 167 = .ok (.aload_n 0, 1) := by decide +kernel
theorem dX8_tellBoat_168 : decode cX8_tellBoat 168 = .ok (.getfield 52, 3) := by decide +kernel
theorem dX8_tellBoat_171 : decode cX8_tellBoat 171 = .ok (.aload_n 0, 1) := by decide +kernel
theorem dX8_tellBoat_172 : decode cX8_tellBoat 172 = .ok (.getfield 233, 3) := by decide +kernel
theorem dX8_tellBoat_175 : decode cX8_tellBoat 175 = .ok (.dup2, 1) := by decide +kernel
theorem dX8_tellBoat_176 : decode cX8_tellBoat 176 = .ok (.iaload, 1) := by decide +kernel
theorem dX8_tellBoat_177 : decode cX8_tellBoat 177 = .ok (.iconst 1, 1) := by decide +kernel
theorem dX8_tellBoat_178 : decode cX8_tellBoat 178 = .ok (.iadd, 1) := by decide +kernel
theorem dX8_tellBoat_179 : decode cX8_tellBoat 179 = .ok (.iastore, 1) := by decide +kernel
theorem dX8_tellBoat_180 : decode cX8_tellBoat 180 = .ok (.return_, 1) := by decide +kernel
theorem dX8_tellLaw_0 : decode cX8_tellLaw 0 = .ok (.aload_n 0, 1) := by decide +kernel
theorem dX8_tellLaw_1 : decode cX8_tellLaw 1 = .ok (.iconst 5, 1) := by decide +kernel
theorem dX8_tellLaw_2 : decode cX8_tellLaw 2 = .ok (.invokevirtual 271, 3) := by decide +kernel
theorem dX8_tellLaw_5 : decode cX8_tellLaw 5 = .ok (.aload_n 0, 1) := by decide +kernel
theorem dX8_tellLaw_6 : decode cX8_tellLaw 6 = .ok (.getfield 239, 3) := by decide +kernel
theorem dX8_tellLaw_9 : decode cX8_tellLaw 9 = .ok (.istore_n 2, 1) := by decide +kernel
theorem dX8_tellLaw_10 : decode cX8_tellLaw 10 = .ok (.iconst 0, 1) := by decide +kernel
theorem dX8_tellLaw_11 : decode cX8_tellLaw 11 = .ok (.istore_n 3, 1) := by decide +kernel
theorem dX8_tellLaw_12 : decode cX8_tellLaw 12 = .ok (.aload_n 0, 1) := by decide +kernel
theorem dX8_tellLaw_13 : decode cX8_tellLaw 13 = .ok (.getfield 200, 3) := by decide +kernel
theorem dX8_tellLaw_16 : decode cX8_tellLaw 16 = .ok (.ifCond .ne 113, 3) := by decide +kernel
theorem dX8_tellLaw_19 : decode cX8_tellLaw 19 = .ok (.aload_n 0, 1) := by decide +kernel
theorem dX8_tellLaw_20 : decode cX8_tellLaw 20 = .ok (.bipush 27, 2) := by decide +kernel
theorem dX8_tellLaw_22 : decode cX8_tellLaw 22 = .ok (.invokevirtual 218, 3) := by decide +kernel
theorem dX8_tellLaw_25 : decode cX8_tellLaw 25 = .ok (.ifCond .eq 104, 3) := by decide +kernel
theorem dX8_tellLaw_28 : decode cX8_tellLaw 28 = .ok (.iload_n 3, 1) := by decide +kernel
theorem dX8_tellLaw_29 : decode cX8_tellLaw 29 = .ok (.iconst 4, 1) := by decide +kernel
theorem dX8_tellLaw_30 : decode cX8_tellLaw 30 = .ok (.if_icmp .ne 8, 3) := by decide +kernel
theorem dX8_tellLaw_33 : decode cX8_tellLaw 33 = .ok (.aload_n 0, 1) := by decide +kernel
theorem dX8_tellLaw_34 : decode cX8_tellLaw 34 = .ok (.iconst 2, 1) := by decide +kernel
theorem dX8_tellLaw_35 : decode cX8_tellLaw 35 = .ok (.invokevirtual 215, 3) := by decide +kernel
theorem dX8_tellLaw_38 : decode cX8_tellLaw 38 = .ok (.aload_n 0, 1) := by decide +kernel
theorem dX8_tellLaw_39 : decode cX8_tellLaw 39 = .ok (.getfield 200, 3) := by decide +kernel
theorem dX8_tellLaw_42 : decode cX8_tellLaw 42 = .ok (.ifCond .le 4, 3) := by decide +kernel
theorem dX8_tellLaw_45 : decode cX8_tellLaw 45 = .ok (.return_, 1) := by decide +kernel
theorem dX8_tellLaw_46 : decode cX8_tellLaw 46 = .ok (.iinc 3 1, 3) := by decide +kernel
theorem dX8_tellLaw_49 : decode cX8_tellLaw 49 = .ok (.aload_n 0, 1) := by decide +kernel
theorem dX8_tellLaw_50 : decode cX8_tellLaw 50 = .ok (.invokevirtual 221, 3) := by decide +kernel
theorem dX8_tellLaw_53 : decode cX8_tellLaw 53 = .ok (.aload_n 0, 1) := by decide +kernel
theorem dX8_tellLaw_54 : decode cX8_tellLaw 54 = .ok (.getfield 79, 3) := by decide +kernel
theorem dX8_tellLaw_57 : decode cX8_tellLaw 57 = .ok (.aload_n 0, 1) := by decide +kernel
theorem dX8_tellLaw_58 : decode cX8_tellLaw 58 = .ok (.getfield 239, 3) := by decide +kernel
theorem dX8_tellLaw_61 : decode cX8_tellLaw 61 = .ok (.iconst 1, 1) := by decide +kernel
theorem dX8_tellLaw_62 : decode cX8_tellLaw 62 = .ok (.bastore, 1) := by decide +kernel
theorem dX8_tellLaw_63 : decode cX8_tellLaw 63 = .ok (.aload_n 0, 1) := by decide +kernel
theorem dX8_tellLaw_64 : decode cX8_tellLaw 64 = .ok (.getfield 83, 3) := by decide +kernel
theorem dX8_tellLaw_67 : decode cX8_tellLaw 67 = .ok (.aload_n 0, 1) := by decide +kernel
theorem dX8_tellLaw_68 : decode cX8_tellLaw 68 = .ok (.getfield 239, 3) := by decide +kernel
theorem dX8_tellLaw_71 : decode cX8_tellLaw 71 = .ok (.aload_n 0, 1) := by decide +kernel
theorem dX8_tellLaw_72 : decode cX8_tellLaw 72 = .ok (.getfield 242, 3) := by decide +kernel
theorem dX8_tellLaw_75 : decode cX8_tellLaw 75 = .ok (.iastore, 1) := by decide +kernel
theorem dX8_tellLaw_76 : decode cX8_tellLaw 76 = .ok (.aload_n 0, 1) := by decide +kernel
theorem dX8_tellLaw_77 : decode cX8_tellLaw 77 = .ok (.invokevirtual 280, 3) := by decide +kernel
theorem dX8_tellLaw_80 : decode cX8_tellLaw 80 = .ok (.aload_n 0, 1) := by decide +kernel
theorem dX8_tellLaw_81 : decode cX8_tellLaw 81 = .ok (.bipush 13, 2) := by decide +kernel
theorem dX8_tellLaw_83 : decode cX8_tellLaw 83 = .ok (.invokevirtual 271, 3) := by decide +kernel
theorem dX8_tellLaw_86 : decode cX8_tellLaw 86 = .ok (.aload_n 0, 1) := by decide +kernel
theorem dX8_tellLaw_87 : decode cX8_tellLaw 87 = .ok (.getfield 86, 3) := by decide +kernel
theorem dX8_tellLaw_90 : decode cX8_tellLaw 90 = .ok (.aload_n 0, 1) := by decide +kernel
theorem dX8_tellLaw_91 : decode cX8_tellLaw 91 = .ok (.getfield 239, 3) := by decide +kernel
theorem dX8_tellLaw_94 : decode cX8_tellLaw 94 = .ok (.aload_n 0, 1) := by decide +kernel
theorem dX8_tellLaw_95 : decode cX8_tellLaw 95 = .ok (.getfield 242, 3) := by decide +kernel
theorem dX8_tellLaw_98 : decode cX8_tellLaw 98 = .ok (.iastore, 1) := by decide +kernel
theorem dX8_tellLaw_99 : decode cX8_tellLaw 99 = .ok (.aload_n 0, 1) := by decide +kernel
theorem dX8_tellLaw_100 : decode cX8_tellLaw 100 = .ok (.getfield 200, 3) := by decide +kernel
theorem dX8_tellLaw_103 : decode cX8_tellLaw 103 = .ok (.ifCond .ne 7, 3) := by decide +kernel
theorem dX8_tellLaw_106 : decode cX8_tellLaw 106 = .ok (.aload_n 0, 1) := by decide +kernel
theorem dX8_tellLaw_107 : decode cX8_tellLaw 107 = .ok (.invokevirtual 280, 3) := by decide +kernel
theorem dX8_tellLaw_110 : decode cX8_tellLaw 110 = .ok (.aload_n 0, 1) := by decide +kernel
theorem dX8_tellLaw_111 : decode cX8_tellLaw 111 = .ok (.bipush 28, 2) := by decide +kernel
theorem dX8_tellLaw_113 : decode cX8_tellLaw 113 = .ok (.invokevirtual 271, 3) := by decide +kernel
theorem dX8_tellLaw_116 : decode cX8_tellLaw 116 = .ok (.aload_n 0, 1) := by decide +kernel
theorem dX8_tellLaw_117 : decode cX8_tellLaw 117 = .ok (.invokevirtual 283, 3) := by decide +kernel
theorem dX8_tellLaw_120 : decode cX8_tellLaw 120 = .ok (.aload_n 0, 1) := by decide +kernel
theorem dX8_tellLaw_121 : decode cX8_tellLaw 121 = .ok (.bipush 29, 2) := by decide +kernel
theorem dX8_tellLaw_123 : decode cX8_tellLaw 123 = .ok (.invokevirtual 271, 3) := by decide +kernel
theorem dX8_tellLaw_126 : decode cX8_tellLaw 126 = .ok (.goto (-114), 3) := by decide +kernel
theorem dX8_tellLaw_129 : decode cX8_tellLaw 129 = .ok (.aload_n 0, 1) := by decide +kernel
theorem dX8_tellLaw_130 : decode cX8_tellLaw 130 = .ok (.getfield 79, 3) := by decide +kernel
theorem dX8_tellLaw_133 : decode cX8_tellLaw 133 = .ok (.aload_n 0, 1) := by decide +kernel
theorem dX8_tellLaw_134 : decode cX8_tellLaw 134 = .ok (.getfield 239, 3) := by decide +kernel
theorem dX8_tellLaw_137 : decode cX8_tellLaw 137 = .ok (.iconst 0, 1) := by decide +kernel
theorem dX8_tellLaw_138 : decode cX8_tellLaw 138 = .ok (.bastore, 1) := by decide +kernel
theorem dX8_tellLaw_139 : decode cX8_tellLaw 139 = .ok (.aload_n 0, 1) := by decide +kernel
theorem dX8_tellLaw_140 : decode cX8_tellLaw 140 = .ok (.invokevirtual 283, 3) := by decide +kernel
theorem dX8_tellLaw_143 : decode cX8_tellLaw 143 = .ok (.aload_n 0, 1) := by decide +kernel
theorem dX8_tellLaw_144 : decode cX8_tellLaw 144 = .ok (.iconst 4, 1) := by decide +kernel
theorem dX8_tellLaw_145 : decode cX8_tellLaw 145 = .ok (.invokevirtual 271, 3) := by decide +kernel
theorem dX8_tellLaw_148 : decode cX8_tellLaw 148 = .ok (.aload_n 0, 1) := by decide +kernel
theorem dX8_tellLaw_149 : decode cX8_tellLaw 149 = .ok (.getfield 200, 3) := by decide +kernel
theorem dX8_tellLaw_152 : decode cX8_tellLaw 152 = .ok (.ifCond .le 4, 3) := by decide +kernel
theorem dX8_tellLaw_155 : decode cX8_tellLaw 155 = .ok (.return_, 1) := by decide +kernel
theorem dX8_tellLaw_156 : decode cX8_tellLaw 156 = .ok (.aload_n 0, 1) := by decide +kernel
theorem dX8_tellLaw_157 : decode cX8_tellLaw 157 = .ok (.getfield 73, 3) := by decide +kernel
theorem dX8_tellLaw_160 : decode cX8_tellLaw 160 = .ok (.iconst 3, 1) := by decide +kernel
theorem dX8_tellLaw_161 : decode cX8_tellLaw 161 = .ok (.aload_n 0, 1) := by decide +kernel
theorem dX8_tellLaw_162 : decode cX8_tellLaw 162 = .ok (.getfield 233, 3) := by decide +kernel
theorem dX8_tellLaw_165 : decode cX8_tellLaw 165 = .ok (.imul, 1) := by decide +kernel
theorem dX8_tellLaw_166 : decode cX8_tellLaw 166 = .ok (.iload_n 1, 1) := by decide +kernel
theorem dX8_tellLaw_167 : decode cX8_tellLaw 167 = .ok (.iadd, 1) := by decide +kernel
theorem dX8_tellLaw_168 : decode cX8_tellLaw 168 = .ok (.iload_n 2, 1) := by decide +kernel
theorem dX8_tellLaw_169 : decode cX8_tellLaw 169 = .ok (.iastore, 1) := by decide +kernel
theorem dX8_tellLaw_170 : decode cX8_tellLaw 170 = .ok (.aload_n 0, 1) := by decide +kernel
theorem dX8_tellLaw_171 : decode cX8_tellLaw 171 = .ok (.getfield 76, 3) := by decide +kernel
theorem dX8_tellLaw_174 : decode cX8_tellLaw 174 = .ok (.iconst 3, 1) := by decide +kernel
theorem dX8_tellLaw_175 : decode cX8_tellLaw 175 = .ok (.aload_n 0, 1) := by decide +kernel
theorem dX8_tellLaw_176 : decode cX8_tellLaw 176 = .ok (.getfield 233, 3) := by decide +kernel
theorem dX8_tellLaw_179 : decode cX8_tellLaw 179 = .ok (.imul, 1) := by decide +kernel
theorem dX8_tellLaw_180 : decode cX8_tellLaw 180 = .ok (.iload_n 1, 1) := by decide +kernel
theorem dX8_tellLaw_181 : decode cX8_tellLaw 181 = .ok (.iadd, 1) := by decide +kernel
theorem dX8_tellLaw_182 : decode cX8_tellLaw 182 = .ok (.aload_n 0, 1) := by decide +kernel
theorem dX8_tellLaw_183 : decode cX8_tellLaw 183 = .ok (.getfield 239, 3) := by decide +kernel
theorem dX8_tellLaw_186 : decode cX8_tellLaw 186 = .ok (.iastore, 1) := by decide +kernel
theorem dX8_tellLaw_187 : decode cX8_tellLaw 187 = .ok (.return_, 1) := by decide +kernel
theorem dX8_term_0 : decode cX8_term 0 = .ok (.aload_n 0, 1) := by decide +kernel
theorem dX8_term_1 : decode cX8_term 1 = .ok (.getfield 89, 3) := by decide +kernel
theorem dX8_term_4 : decode cX8_term 4 = .ok (.aload_n 0, 1) := by decide +kernel
theorem dX8_term_5 : decode cX8_term 5 = .ok (.getfield 239, 3) := by decide +kernel
theorem dX8_term_8 : decode cX8_term 8 = .ok (.aload_n 0, 1) := by decide +kernel
theorem dX8_term_9 : decode cX8_term 9 = .ok (.getfield 242, 3) := by decide +kernel
theorem dX8_term_12 : decode cX8_term 12 = .ok (.iastore, 1) := by decide +kernel
theorem dX8_term_13 : decode cX8_term 13 = .ok (.aload_n 0, 1) := by decide +kernel
theorem dX8_term_14 : decode cX8_term 14 = .ok (.getfield 200, 3) := by decide +kernel
theorem dX8_term_17 : decode cX8_term 17 = .ok (.ifCond .ne 7, 3) := by decide +kernel
theorem dX8_term_20 : decode cX8_term 20 = .ok (.aload_n 0, 1) := by decide +kernel
theorem dX8_term_21 : decode cX8_term 21 = .ok (.invokevirtual 280, 3) := by decide +kernel
theorem dX8_term_24 : decode cX8_term 24 = .ok (.aload_n 0, 1) := by decide +kernel
theorem dX8_term_25 : decode cX8_term 25 = .ok (.getfield 92, 3) := by decide +kernel
theorem dX8_term_28 : decode cX8_term 28 = .ok (.aload_n 0, 1) := by decide +kernel
theorem dX8_term_29 : decode cX8_term 29 = .ok (.getfield 239, 3) := by decide +kernel
theorem dX8_term_32 : decode cX8_term 32 = .ok (.aload_n 0, 1) := by decide +kernel
theorem dX8_term_33 : decode cX8_term 33 = .ok (.getfield 242, 3) := by decide +kernel
theorem dX8_term_36 : decode cX8_term 36 = .ok (.iastore, 1) := by decide +kernel
theorem dX8_term_37 : decode cX8_term 37 = .ok (.aload_n 0, 1) := by decide +kernel
theorem dX8_term_38 : decode cX8_term 38 = .ok (.dup, 1) := by decide +kernel
theorem dX8_term_39 : decode cX8_term 39 = .ok (.getfield 239, 3) := by decide +kernel
theorem dX8_term_42 : decode cX8_term 42 = .ok (.iconst 1, 1) := by decide +kernel
theorem dX8_term_43 : decode cX8_term 43 = .ok (.iadd, 1) := by decide +kernel
theorem dX8_term_44 : decode cX8_term 44 = .ok (.putfield 239, 3) := by decide +kernel
theorem dX8_term_47 : decode cX8_term 47 = .ok (.return_, 1) := by decide +kernel
theorem dX8_emit_0 : decode cX8_emit 0 = .ok (.aload_n 0, 1) := by decide +kernel
theorem dX8_emit_1 : decode cX8_emit 1 = .ok (.getfield 95, 3) := by decide +kernel
theorem dX8_emit_4 : decode cX8_emit 4 = .ok (.aload_n 0, 1) := by decide +kernel
theorem dX8_emit_5 : decode cX8_emit 5 = .ok (.getfield 242, 3) := by decide +kernel
theorem dX8_emit_8 : decode cX8_emit 8 = .ok (.iload_n 1, 1) := by decide +kernel
theorem dX8_emit_9 : decode cX8_emit 9 = .ok (.iastore, 1) := by decide +kernel
theorem dX8_emit_10 : decode cX8_emit 10 = .ok (.aload_n 0, 1) := by decide +kernel
theorem dX8_emit_11 : decode cX8_emit 11 = .ok (.getfield 98, 3) := by decide +kernel
theorem dX8_emit_14 : decode cX8_emit 14 = .ok (.aload_n 0, 1) := by decide +kernel
theorem dX8_emit_15 : decode cX8_emit 15 = .ok (.getfield 242, 3) := by decide +kernel
theorem dX8_emit_18 : decode cX8_emit 18 = .ok (.iload_n 2, 1) := by decide +kernel
theorem dX8_emit_19 : decode cX8_emit 19 = .ok (.iastore, 1) := by decide +kernel
theorem dX8_emit_20 : decode cX8_emit 20 = .ok (.aload_n 0, 1) := by decide +kernel
theorem dX8_emit_21 : decode cX8_emit 21 = .ok (.dup, 1) := by decide +kernel
theorem dX8_emit_22 : decode cX8_emit 22 = .ok (.getfield 242, 3) := by decide +kernel
theorem dX8_emit_25 : decode cX8_emit 25 = .ok (.iconst 1, 1) := by decide +kernel
theorem dX8_emit_26 : decode cX8_emit 26 = .ok (.iadd, 1) := by decide +kernel
theorem dX8_emit_27 : decode cX8_emit 27 = .ok (.putfield 242, 3) := by decide +kernel
theorem dX8_emit_30 : decode cX8_emit 30 = .ok (.return_, 1) := by decide +kernel
theorem dX8_comesOut_0 : decode cX8_comesOut 0 = .ok (.aload_n 0, 1) := by decide +kernel
theorem dX8_comesOut_1 : decode cX8_comesOut 1 = .ok (.getfield 286, 3) := by decide +kernel
theorem dX8_comesOut_4 : decode cX8_comesOut 4 = .ok (.ifCond .le 87, 3) := by decide +kernel
theorem dX8_comesOut_7 : decode cX8_comesOut 7 = .ok (.aload_n 0, 1) := by decide +kernel
theorem dX8_comesOut_8 : decode cX8_comesOut 8 = .ok (.getfield 101, 3) := by decide +kernel
theorem dX8_comesOut_11 : decode cX8_comesOut 11 = .ok (.aload_n 0, 1) := by decide +kernel
theorem dX8_comesOut_12 : decode cX8_comesOut 12 = .ok (.getfield 286, 3) := by decide +kernel
theorem dX8_comesOut_15 : decode cX8_comesOut 15 = .ok (.iconst 1, 1) := by decide +kernel
theorem dX8_comesOut_16 : decode cX8_comesOut 16 = .ok (.isub, 1) := by decide +kernel
theorem dX8_comesOut_17 : decode cX8_comesOut 17 = .ok (.iaload, 1) := by decide +kernel
theorem dX8_comesOut_18 : decode cX8_comesOut 18 = .ok (.istore_n 2, 1) := by decide +kernel
theorem dX8_comesOut_19 : decode cX8_comesOut 19 = .ok (.iload_n 2, 1) := by decide +kernel
theorem dX8_comesOut_20 : decode cX8_comesOut 20 = .ok (.bipush 6, 2) := by decide +kernel
theorem dX8_comesOut_22 : decode cX8_comesOut 22 = .ok (.if_icmp .eq 19, 3) := by decide +kernel
theorem dX8_comesOut_25 : decode cX8_comesOut 25 = .ok (.iload_n 1, 1) := by decide +kernel
theorem dX8_comesOut_26 : decode cX8_comesOut 26 = .ok (.ifCond .eq 16, 3) := by decide +kernel
theorem dX8_comesOut_29 : decode cX8_comesOut 29 = .ok (.iload_n 2, 1) := by decide +kernel
theorem dX8_comesOut_30 : decode cX8_comesOut 30 = .ok (.bipush 8, 2) := by decide +kernel
theorem dX8_comesOut_32 : decode cX8_comesOut 32 = .ok (.if_icmp .eq 9, 3) := by decide +kernel
theorem dX8_comesOut_35 : decode cX8_comesOut 35 = .ok (.iload_n 2, 1) := by decide +kernel
theorem dX8_comesOut_36 : decode cX8_comesOut 36 = .ok (.bipush 9, 2) := by decide +kernel
theorem dX8_comesOut_38 : decode cX8_comesOut 38 = .ok (.if_icmp .ne 4, 3) := by decide +kernel
theorem dX8_comesOut_41 : decode cX8_comesOut 41 = .ok (.return_, 1) := by decide +kernel
theorem dX8_comesOut_42 : decode cX8_comesOut 42 = .ok (.aload_n 0, 1) := by decide +kernel
theorem dX8_comesOut_43 : decode cX8_comesOut 43 = .ok (.dup, 1) := by decide +kernel
theorem dX8_comesOut_44 : decode cX8_comesOut 44 = .ok (.getfield 286, 3) := by decide +kernel
theorem dX8_comesOut_47 : decode cX8_comesOut 47 = .ok (.iconst 1, 1) := by decide +kernel
theorem dX8_comesOut_48 : decode cX8_comesOut 48 = .ok (.isub, 1) := by decide +kernel
theorem dX8_comesOut_49 : decode cX8_comesOut 49 = .ok (.putfield 286, 3) := by decide +kernel
theorem dX8_comesOut_52 : decode cX8_comesOut 52 = .ok (.aload_n 0, 1) := by decide +kernel
theorem dX8_comesOut_53 : decode cX8_comesOut 53 = .ok (.iload_n 2, 1) := by decide +kernel
theorem dX8_comesOut_54 : decode cX8_comesOut 54 = .ok (.bipush 8, 2) := by decide +kernel
theorem dX8_comesOut_56 : decode cX8_comesOut 56 = .ok (.if_icmp .ne 7, 3) := by decide +kernel
theorem dX8_comesOut_59 : decode cX8_comesOut 59 = .ok (.iconst 2, 1) := by decide +kernel
theorem dX8_comesOut_60 : decode cX8_comesOut 60 = .ok (.goto 24, 3) := by decide +kernel
theorem dX8_comesOut_63 : decode cX8_comesOut 63 = .ok (.iload_n 2, 1) := by decide +kernel
theorem dX8_comesOut_64 : decode cX8_comesOut 64 = .ok (.bipush 9, 2) := by decide +kernel
theorem dX8_comesOut_66 : decode cX8_comesOut 66 = .ok (.if_icmp .ne 7, 3) := by decide +kernel
theorem dX8_comesOut_69 : decode cX8_comesOut 69 = .ok (.iconst 3, 1) := by decide +kernel
theorem dX8_comesOut_70 : decode cX8_comesOut 70 = .ok (.goto 14, 3) := by decide +kernel
theorem dX8_comesOut_73 : decode cX8_comesOut 73 = .ok (.iload_n 2, 1) := by decide +kernel
theorem dX8_comesOut_74 : decode cX8_comesOut 74 = .ok (.bipush 10, 2) := by decide +kernel
theorem dX8_comesOut_76 : decode cX8_comesOut 76 = .ok (.if_icmp .ne 7, 3) := by decide +kernel
theorem dX8_comesOut_79 : decode cX8_comesOut 79 = .ok (.iconst 4, 1) := by decide +kernel
theorem dX8_comesOut_80 : decode cX8_comesOut 80 = .ok (.goto 4, 3) := by decide +kernel
theorem dX8_comesOut_83 : decode cX8_comesOut 83 = .ok (.iconst 5, 1) := by decide +kernel
theorem dX8_comesOut_84 : decode cX8_comesOut 84 = .ok (.iconst 0, 1) := by decide +kernel
theorem dX8_comesOut_85 : decode cX8_comesOut 85 = .ok (.invokevirtual 289, 3) := by decide +kernel
theorem dX8_comesOut_88 : decode cX8_comesOut 88 = .ok (.goto (-88), 3) := by decide +kernel
theorem dX8_comesOut_91 : decode cX8_comesOut 91 = .ok (.return_, 1) := by decide +kernel
theorem dX8_expression_0 : decode cX8_expression 0 = .ok (.aload_n 0, 1) := by decide +kernel
theorem dX8_expression_1 : decode cX8_expression 1 = .ok (.iconst 0, 1) := by decide +kernel
theorem dX8_expression_2 : decode cX8_expression 2 = .ok (.putfield 286, 3) := by decide +kernel
theorem dX8_expression_5 : decode cX8_expression 5 = .ok (.aload_n 0, 1) := by decide +kernel
theorem dX8_expression_6 : decode cX8_expression 6 = .ok (.getfield 227, 3) := by decide +kernel
theorem dX8_expression_9 : decode cX8_expression 9 = .ok (.istore_n 1, 1) := by decide +kernel
theorem dX8_expression_10 : decode cX8_expression 10 = .ok (.iconst 1, 1) := by decide +kernel
theorem dX8_expression_11 : decode cX8_expression 11 = .ok (.istore_n 2, 1) := by decide +kernel
theorem dX8_expression_12 : decode cX8_expression 12 = .ok (.iload_n 2, 1) := by decide +kernel
theorem dX8_expression_13 : decode cX8_expression 13 = .ok (.ifCond .eq 259, 3) := by decide +kernel
theorem dX8_expression_16 : decode cX8_expression 16 = .ok (.aload_n 0, 1) := by decide +kernel
theorem dX8_expression_17 : decode cX8_expression 17 = .ok (.getfield 200, 3) := by decide +kernel
theorem dX8_expression_20 : decode cX8_expression 20 = .ok (.ifCond .ne 252, 3) := by decide +kernel
theorem dX8_expression_23 : decode cX8_expression 23 = .ok (.aload_n 0, 1) := by decide +kernel
theorem dX8_expression_24 : decode cX8_expression 24 = .ok (.bipush 6, 2) := by decide +kernel
theorem dX8_expression_26 : decode cX8_expression 26 = .ok (.invokevirtual 218, 3) := by decide +kernel
theorem dX8_expression_29 : decode cX8_expression 29 = .ok (.ifCond .eq 55, 3) := by decide +kernel
theorem dX8_expression_32 : decode cX8_expression 32 = .ok (.aload_n 0, 1) := by decide +kernel
theorem dX8_expression_33 : decode cX8_expression 33 = .ok (.getfield 227, 3) := by decide +kernel
theorem dX8_expression_36 : decode cX8_expression 36 = .ok (.bipush 6, 2) := by decide +kernel
theorem dX8_expression_38 : decode cX8_expression 38 = .ok (.if_icmp .ne 8, 3) := by decide +kernel
theorem dX8_expression_41 : decode cX8_expression 41 = .ok (.aload_n 0, 1) := by decide +kernel
theorem dX8_expression_42 : decode cX8_expression 42 = .ok (.iconst 2, 1) := by decide +kernel
theorem dX8_expression_43 : decode cX8_expression 43 = .ok (.invokevirtual 215, 3) := by decide +kernel
theorem dX8_expression_46 : decode cX8_expression 46 = .ok (.aload_n 0, 1) := by decide +kernel
theorem dX8_expression_47 : decode cX8_expression 47 = .ok (.dup, 1) := by decide +kernel
theorem dX8_expression_48 : decode cX8_expression 48 = .ok (.getfield 227, 3) := by decide +kernel
theorem dX8_expression_51 : decode cX8_expression 51 = .ok (.iconst 1, 1) := by decide +kernel
theorem dX8_expression_52 : decode cX8_expression 52 = .ok (.iadd, 1) := by decide +kernel
theorem dX8_expression_53 : decode cX8_expression 53 = .ok (.putfield 227, 3) := by decide +kernel
theorem dX8_expression_56 : decode cX8_expression 56 = .ok (.aload_n 0, 1) := by decide +kernel
theorem dX8_expression_57 : decode cX8_expression 57 = .ok (.invokevirtual 221, 3) := by decide +kernel
theorem dX8_expression_60 : decode cX8_expression 60 = .ok (.aload_n 0, 1) := by decide +kernel
theorem dX8_expression_61 : decode cX8_expression 61 = .ok (.getfield 101, 3) := by decide +kernel
theorem dX8_expression_64 : decode cX8_expression 64 = .ok (.aload_n 0, 1) := by decide +kernel
theorem dX8_expression_65 : decode cX8_expression 65 = .ok (.getfield 286, 3) := by decide +kernel
theorem dX8_expression_68 : decode cX8_expression 68 = .ok (.bipush 6, 2) := by decide +kernel
theorem dX8_expression_70 : decode cX8_expression 70 = .ok (.iastore, 1) := by decide +kernel
theorem dX8_expression_71 : decode cX8_expression 71 = .ok (.aload_n 0, 1) := by decide +kernel
theorem dX8_expression_72 : decode cX8_expression 72 = .ok (.dup, 1) := by decide +kernel
theorem dX8_expression_73 : decode cX8_expression 73 = .ok (.getfield 286, 3) := by decide +kernel
theorem dX8_expression_76 : decode cX8_expression 76 = .ok (.iconst 1, 1) := by decide +kernel
theorem dX8_expression_77 : decode cX8_expression 77 = .ok (.iadd, 1) := by decide +kernel
theorem dX8_expression_78 : decode cX8_expression 78 = .ok (.putfield 286, 3) := by decide +kernel
theorem dX8_expression_81 : decode cX8_expression 81 = .ok (.goto (-58), 3) := by decide +kernel
theorem dX8_expression_84 : decode cX8_expression 84 = .ok (.aload_n 0, 1) := by decide +kernel
theorem dX8_expression_85 : decode cX8_expression 85 = .ok (.invokevirtual 292, 3) := by decide +kernel
theorem dX8_expression_88 : decode cX8_expression 88 = .ok (.aload_n 0, 1) := by decide +kernel
theorem dX8_expression_89 : decode cX8_expression 89 = .ok (.getfield 200, 3) := by decide +kernel
theorem dX8_expression_92 : decode cX8_expression 92 = .ok (.ifCond .le 4, 3) := by decide +kernel
theorem dX8_expression_95 : decode cX8_expression 95 = .ok (.return_, 1) := by decide +kernel
theorem dX8_expression_96 : decode cX8_expression 96 = .ok (.aload_n 0, 1) := by decide +kernel
theorem dX8_expression_97 : decode cX8_expression 97 = .ok (.bipush 7, 2) := by decide +kernel
theorem dX8_expression_99 : decode cX8_expression 99 = .ok (.invokevirtual 218, 3) := by decide +kernel
theorem dX8_expression_102 : decode cX8_expression 102 = .ok (.ifCond .eq 43, 3) := by decide +kernel
theorem dX8_expression_105 : decode cX8_expression 105 = .ok (.aload_n 0, 1) := by decide +kernel
theorem dX8_expression_106 : decode cX8_expression 106 = .ok (.getfield 227, 3) := by decide +kernel
theorem dX8_expression_109 : decode cX8_expression 109 = .ok (.iload_n 1, 1) := by decide +kernel
theorem dX8_expression_110 : decode cX8_expression 110 = .ok (.if_icmp .le 35, 3) := by decide +kernel
theorem dX8_expression_113 : decode cX8_expression 113 = .ok (.aload_n 0, 1) := by decide +kernel
theorem dX8_expression_114 : decode cX8_expression 114 = .ok (.iconst 0, 1) := by decide +kernel
theorem dX8_expression_115 : decode cX8_expression 115 = .ok (.invokevirtual 295, 3) := by decide +kernel
theorem dX8_expression_118 : decode cX8_expression 118 = .ok (.aload_n 0, 1) := by decide +kernel
theorem dX8_expression_119 : decode cX8_expression 119 = .ok (.dup, 1) := by decide +kernel
theorem dX8_expression_120 : decode cX8_expression 120 = .ok (.getfield 286, 3) := by decide +kernel
theorem dX8_expression_123 : decode cX8_expression 123 = .ok (.iconst 1, 1) := by decide +kernel
theorem dX8_expression_124 : decode cX8_expression 124 = .ok (.isub, 1) := by decide +kernel
theorem dX8_expression_125 : decode cX8_expression 125 = .ok (.putfield 286, 3) := by decide +kernel
theorem dX8_expression_128 : decode cX8_expression 128 = .ok (.aload_n 0, 1) := by decide +kernel
theorem dX8_expression_129 : decode cX8_expression 129 = .ok (.dup, 1) := by decide +kernel
theorem dX8_expression_130 : decode cX8_expression 130 = .ok (.getfield 227, 3) := by decide +kernel
theorem dX8_expression_133 : decode cX8_expression 133 = .ok (.iconst 1, 1) := by decide +kernel
theorem dX8_expression_134 : decode cX8_expression 134 = .ok (.isub, 1) := by decide +kernel
theorem dX8_expression_135 : decode cX8_expression 135 = .ok (.putfield 227, 3) := by decide +kernel
theorem dX8_expression_138 : decode cX8_expression 138 = .ok (.aload_n 0, 1) := by decide +kernel
theorem dX8_expression_139 : decode cX8_expression 139 = .ok (.invokevirtual 221, 3) := by decide +kernel
theorem dX8_expression_142 : decode cX8_expression 142 = .ok (.goto (-46), 3) := by decide +kernel
theorem dX8_expression_145 : decode cX8_expression 145 = .ok (.aload_n 0, 1) := by decide +kernel
theorem dX8_expression_146 : decode cX8_expression 146 = .ok (.bipush 8, 2) := by decide +kernel
theorem dX8_expression_148 : decode cX8_expression 148 = .ok (.invokevirtual 218, 3) := by decide +kernel
theorem dX8_expression_151 : decode cX8_expression 151 = .ok (.ifCond .ne 30, 3) := by decide +kernel
theorem dX8_expression_154 : decode cX8_expression 154 = .ok (.aload_n 0, 1) := by decide +kernel
theorem dX8_expression_155 : decode cX8_expression 155 = .ok (.bipush 9, 2) := by decide +kernel
theorem dX8_expression_157 : decode cX8_expression 157 = .ok (.invokevirtual 218, 3) := by decide +kernel
theorem dX8_expression_160 : decode cX8_expression 160 = .ok (.ifCond .ne 21, 3) := by decide +kernel
theorem dX8_expression_163 : decode cX8_expression 163 = .ok (.aload_n 0, 1) := by decide +kernel
theorem dX8_expression_164 : decode cX8_expression 164 = .ok (.bipush 10, 2) := by decide +kernel
theorem dX8_expression_166 : decode cX8_expression 166 = .ok (.invokevirtual 218, 3) := by decide +kernel
theorem dX8_expression_169 : decode cX8_expression 169 = .ok (.ifCond .ne 12, 3) := by decide +kernel
theorem dX8_expression_172 : decode cX8_expression 172 = .ok (.aload_n 0, 1) := by decide +kernel
theorem dX8_expression_173 : decode cX8_expression 173 = .ok (.bipush 15, 2) := by decide +kernel
theorem dX8_expression_175 : decode cX8_expression 175 = .ok (.invokevirtual 218, 3) := by decide +kernel
theorem dX8_expression_178 : decode cX8_expression 178 = .ok (.ifCond .eq 7, 3) := by decide +kernel
theorem dX8_expression_181 : decode cX8_expression 181 = .ok (.iconst 1, 1) := by decide +kernel
theorem dX8_expression_182 : decode cX8_expression 182 = .ok (.goto 4, 3) := by decide +kernel
theorem dX8_expression_185 : decode cX8_expression 185 = .ok (.iconst 0, 1) := by decide +kernel
theorem dX8_expression_186 : decode cX8_expression 186 = .ok (.istore_n 2, 1) := by decide +kernel
theorem dX8_expression_187 : decode cX8_expression 187 = .ok (.iload_n 2, 1) := by decide +kernel
theorem dX8_expression_188 : decode cX8_expression 188 = .ok (.ifCond .ne 22, 3) := by decide +kernel
theorem dX8_expression_191 : decode cX8_expression 191 = .ok (.aload_n 0, 1) := by decide +kernel
theorem dX8_expression_192 : decode cX8_expression 192 = .ok (.getfield 227, 3) := by decide +kernel
theorem dX8_expression_195 : decode cX8_expression 195 = .ok (.iload_n 1, 1) := by decide +kernel
theorem dX8_expression_196 : decode cX8_expression 196 = .ok (.if_icmp .le 8, 3) := by decide +kernel
theorem dX8_expression_199 : decode cX8_expression 199 = .ok (.aload_n 0, 1) := by decide +kernel
theorem dX8_expression_200 : decode cX8_expression 200 = .ok (.iconst 1, 1) := by decide +kernel
theorem dX8_expression_201 : decode cX8_expression 201 = .ok (.invokevirtual 215, 3) := by decide +kernel
theorem dX8_expression_204 : decode cX8_expression 204 = .ok (.aload_n 0, 1) := by decide +kernel
theorem dX8_expression_205 : decode cX8_expression 205 = .ok (.iconst 0, 1) := by decide +kernel
theorem dX8_expression_206 : decode cX8_expression 206 = .ok (.invokevirtual 295, 3) := by decide +kernel
theorem dX8_expression_209 : decode cX8_expression 209 = .ok (.return_, 1) := by decide +kernel
theorem dX8_expression_210 : decode cX8_expression 210 = .ok (.aload_n 0, 1) := by decide +kernel
theorem dX8_expression_211 : decode cX8_expression 211 = .ok (.aload_n 0, 1) := by decide +kernel
theorem dX8_expression_212 : decode cX8_expression 212 = .ok (.bipush 10, 2) := by decide +kernel
theorem dX8_expression_214 : decode cX8_expression 214 = .ok (.invokevirtual 218, 3) := by decide +kernel
theorem dX8_expression_217 : decode cX8_expression 217 = .ok (.ifCond .ne 12, 3) := by decide +kernel
theorem dX8_expression_220 : decode cX8_expression 220 = .ok (.aload_n 0, 1) := by decide +kernel
theorem dX8_expression_221 : decode cX8_expression 221 = .ok (.bipush 15, 2) := by decide +kernel
theorem dX8_expression_223 : decode cX8_expression 223 = .ok (.invokevirtual 218, 3) := by decide +kernel
theorem dX8_expression_226 : decode cX8_expression 226 = .ok (.ifCond .eq 7, 3) := by decide +kernel
theorem dX8_expression_229 : decode cX8_expression 229 = .ok (.iconst 1, 1) := by decide +kernel
theorem dX8_expression_230 : decode cX8_expression 230 = .ok (.goto 4, 3) := by decide +kernel
theorem dX8_expression_233 : decode cX8_expression 233 = .ok (.iconst 0, 1) := by decide +kernel
theorem dX8_expression_234 : decode cX8_expression 234 = .ok (.invokevirtual 295, 3) := by decide +kernel
theorem dX8_expression_237 : decode cX8_expression 237 = .ok (.aload_n 0, 1) := by decide +kernel
theorem dX8_expression_238 : decode cX8_expression 238 = .ok (.getfield 101, 3) := by decide +kernel
theorem dX8_expression_241 : decode cX8_expression 241 = .ok (.aload_n 0, 1) := by decide +kernel
theorem dX8_expression_242 : decode cX8_expression 242 = .ok (.getfield 286, 3) := by decide +kernel
theorem dX8_expression_245 : decode cX8_expression 245 = .ok (.aload_n 0, 1) := by decide +kernel
theorem dX8_expression_246 : decode cX8_expression 246 = .ok (.getfield 20, 3) := by decide +kernel
theorem dX8_expression_249 : decode cX8_expression 249 = .ok (.aload_n 0, 1) := by decide +kernel
theorem dX8_expression_250 : decode cX8_expression 250 = .ok (.getfield 203, 3) := by decide +kernel
theorem dX8_expression_253 : decode cX8_expression 253 = .ok (.iaload, 1) := by decide +kernel
theorem dX8_expression_254 : decode cX8_expression 254 = .ok (.iastore, 1) := by decide +kernel
theorem dX8_expression_255 : decode cX8_expression 255 = .ok (.aload_n 0, 1) := by decide +kernel
theorem dX8_expression_256 : decode cX8_expression 256 = .ok (.dup, 1) := by decide +kernel
theorem dX8_expression_257 : decode cX8_expression 257 = .ok (.getfield 286, 3) := by decide +kernel
theorem dX8_expression_260 : decode cX8_expression 260 = .ok (.iconst 1, 1) := by decide +kernel
theorem dX8_expression_261 : decode cX8_expression 261 = .ok (.iadd, 1) := by decide +kernel
theorem dX8_expression_262 : decode cX8_expression 262 = .ok (.putfield 286, 3) := by decide +kernel
theorem dX8_expression_265 : decode cX8_expression 265 = .ok (.aload_n 0, 1) := by decide +kernel
theorem dX8_expression_266 : decode cX8_expression 266 = .ok (.invokevirtual 221, 3) := by decide +kernel
theorem dX8_expression_269 : decode cX8_expression 269 = .ok (.goto (-257), 3) := by decide +kernel
theorem dX8_expression_272 : decode cX8_expression 272 = .ok (.return_, 1) := by decide +kernel
theorem dX8_unit_0 : decode cX8_unit 0 = .ok (.aload_n 0, 1) := by decide +kernel
theorem dX8_unit_1 : decode cX8_unit 1 = .ok (.iconst 2, 1) := by decide +kernel
theorem dX8_unit_2 : decode cX8_unit 2 = .ok (.invokevirtual 218, 3) := by decide +kernel
theorem dX8_unit_5 : decode cX8_unit 5 = .ok (.ifCond .eq 24, 3) := by decide +kernel
theorem dX8_unit_8 : decode cX8_unit 8 = .ok (.aload_n 0, 1) := by decide +kernel
theorem dX8_unit_9 : decode cX8_unit 9 = .ok (.iconst 0, 1) := by decide +kernel
theorem dX8_unit_10 : decode cX8_unit 10 = .ok (.aload_n 0, 1) := by decide +kernel
theorem dX8_unit_11 : decode cX8_unit 11 = .ok (.getfield 27, 3) := by decide +kernel
theorem dX8_unit_14 : decode cX8_unit 14 = .ok (.aload_n 0, 1) := by decide +kernel
theorem dX8_unit_15 : decode cX8_unit 15 = .ok (.getfield 203, 3) := by decide +kernel
theorem dX8_unit_18 : decode cX8_unit 18 = .ok (.iaload, 1) := by decide +kernel
theorem dX8_unit_19 : decode cX8_unit 19 = .ok (.invokevirtual 289, 3) := by decide +kernel
theorem dX8_unit_22 : decode cX8_unit 22 = .ok (.aload_n 0, 1) := by decide +kernel
theorem dX8_unit_23 : decode cX8_unit 23 = .ok (.invokevirtual 221, 3) := by decide +kernel
theorem dX8_unit_26 : decode cX8_unit 26 = .ok (.goto 67, 3) := by decide +kernel
theorem dX8_unit_29 : decode cX8_unit 29 = .ok (.aload_n 0, 1) := by decide +kernel
theorem dX8_unit_30 : decode cX8_unit 30 = .ok (.getfield 200, 3) := by decide +kernel
theorem dX8_unit_33 : decode cX8_unit 33 = .ok (.ifCond .ne 55, 3) := by decide +kernel
theorem dX8_unit_36 : decode cX8_unit 36 = .ok (.aload_n 0, 1) := by decide +kernel
theorem dX8_unit_37 : decode cX8_unit 37 = .ok (.getfield 20, 3) := by decide +kernel
theorem dX8_unit_40 : decode cX8_unit 40 = .ok (.aload_n 0, 1) := by decide +kernel
theorem dX8_unit_41 : decode cX8_unit 41 = .ok (.getfield 203, 3) := by decide +kernel
theorem dX8_unit_44 : decode cX8_unit 44 = .ok (.iaload, 1) := by decide +kernel
theorem dX8_unit_45 : decode cX8_unit 45 = .ok (.bipush 30, 2) := by decide +kernel
theorem dX8_unit_47 : decode cX8_unit 47 = .ok (.if_icmp .lt 41, 3) := by decide +kernel
theorem dX8_unit_50 : decode cX8_unit 50 = .ok (.aload_n 0, 1) := by decide +kernel
theorem dX8_unit_51 : decode cX8_unit 51 = .ok (.getfield 20, 3) := by decide +kernel
theorem dX8_unit_54 : decode cX8_unit 54 = .ok (.aload_n 0, 1) := by decide +kernel
theorem dX8_unit_55 : decode cX8_unit 55 = .ok (.getfield 203, 3) := by decide +kernel
theorem dX8_unit_58 : decode cX8_unit 58 = .ok (.iaload, 1) := by decide +kernel
theorem dX8_unit_59 : decode cX8_unit 59 = .ok (.bipush 38, 2) := by decide +kernel
theorem dX8_unit_61 : decode cX8_unit 61 = .ok (.if_icmp .gt 27, 3) := by decide +kernel
theorem dX8_unit_64 : decode cX8_unit 64 = .ok (.aload_n 0, 1) := by decide +kernel
theorem dX8_unit_65 : decode cX8_unit 65 = .ok (.iconst 1, 1) := by decide +kernel
theorem dX8_unit_66 : decode cX8_unit 66 = .ok (.aload_n 0, 1) := by decide +kernel
theorem dX8_unit_67 : decode cX8_unit 67 = .ok (.getfield 20, 3) := by decide +kernel
theorem dX8_unit_70 : decode cX8_unit 70 = .ok (.aload_n 0, 1) := by decide +kernel
theorem dX8_unit_71 : decode cX8_unit 71 = .ok (.getfield 203, 3) := by decide +kernel
theorem dX8_unit_74 : decode cX8_unit 74 = .ok (.iaload, 1) := by decide +kernel
theorem dX8_unit_75 : decode cX8_unit 75 = .ok (.bipush 30, 2) := by decide +kernel
theorem dX8_unit_77 : decode cX8_unit 77 = .ok (.isub, 1) := by decide +kernel
theorem dX8_unit_78 : decode cX8_unit 78 = .ok (.invokevirtual 289, 3) := by decide +kernel
theorem dX8_unit_81 : decode cX8_unit 81 = .ok (.aload_n 0, 1) := by decide +kernel
theorem dX8_unit_82 : decode cX8_unit 82 = .ok (.invokevirtual 221, 3) := by decide +kernel
theorem dX8_unit_85 : decode cX8_unit 85 = .ok (.goto 8, 3) := by decide +kernel
theorem dX8_unit_88 : decode cX8_unit 88 = .ok (.aload_n 0, 1) := by decide +kernel
theorem dX8_unit_89 : decode cX8_unit 89 = .ok (.iconst 1, 1) := by decide +kernel
theorem dX8_unit_90 : decode cX8_unit 90 = .ok (.invokevirtual 215, 3) := by decide +kernel
theorem dX8_unit_93 : decode cX8_unit 93 = .ok (.return_, 1) := by decide +kernel
theorem dX8_termOf_0 : decode cX8_termOf 0 = .ok (.iconst 0, 1) := by decide +kernel
theorem dX8_termOf_1 : decode cX8_termOf 1 = .ok (.istore_n 3, 1) := by decide +kernel
theorem dX8_termOf_2 : decode cX8_termOf 2 = .ok (.iload_n 1, 1) := by decide +kernel
theorem dX8_termOf_3 : decode cX8_termOf 3 = .ok (.istore 4, 2) := by decide +kernel
theorem dX8_termOf_5 : decode cX8_termOf 5 = .ok (.iload 4, 2) := by decide +kernel
theorem dX8_termOf_7 : decode cX8_termOf 7 = .ok (.iload_n 2, 1) := by decide +kernel
theorem dX8_termOf_8 : decode cX8_termOf 8 = .ok (.if_icmp .ge 157, 3) := by decide +kernel
theorem dX8_termOf_11 : decode cX8_termOf 11 = .ok (.aload_n 0, 1) := by decide +kernel
theorem dX8_termOf_12 : decode cX8_termOf 12 = .ok (.getfield 95, 3) := by decide +kernel
theorem dX8_termOf_15 : decode cX8_termOf 15 = .ok (.iload 4, 2) := by decide +kernel
theorem dX8_termOf_17 : decode cX8_termOf 17 = .ok (.iaload, 1) := by decide +kernel
theorem dX8_termOf_18 : decode cX8_termOf 18 = .ok (.istore 5, 2) := by decide +kernel
theorem dX8_termOf_20 : decode cX8_termOf 20 = .ok (.iload 5, 2) := by decide +kernel
theorem dX8_termOf_22 : decode cX8_termOf 22 = .ok (.iconst 2, 1) := by decide +kernel
theorem dX8_termOf_23 : decode cX8_termOf 23 = .ok (.if_icmp .ge 42, 3) := by decide +kernel
theorem dX8_termOf_26 : decode cX8_termOf 26 = .ok (.aload_n 0, 1) := by decide +kernel
theorem dX8_termOf_27 : decode cX8_termOf 27 = .ok (.getfield 107, 3) := by decide +kernel
theorem dX8_termOf_30 : decode cX8_termOf 30 = .ok (.iload_n 3, 1) := by decide +kernel
theorem dX8_termOf_31 : decode cX8_termOf 31 = .ok (.iload 5, 2) := by decide +kernel
theorem dX8_termOf_33 : decode cX8_termOf 33 = .ok (.ifCond .ne 13, 3) := by decide +kernel
theorem dX8_termOf_36 : decode cX8_termOf 36 = .ok (.aload_n 0, 1) := by decide +kernel
theorem dX8_termOf_37 : decode cX8_termOf 37 = .ok (.getfield 98, 3) := by decide +kernel
theorem dX8_termOf_40 : decode cX8_termOf 40 = .ok (.iload 4, 2) := by decide +kernel
theorem dX8_termOf_42 : decode cX8_termOf 42 = .ok (.iaload, 1) := by decide +kernel
theorem dX8_termOf_43 : decode cX8_termOf 43 = .ok (.goto 15, 3) := by decide +kernel
theorem dX8_termOf_46 : decode cX8_termOf 46 = .ok (.aload_n 0, 1) := by decide +kernel
theorem dX8_termOf_47 : decode cX8_termOf 47 = .ok (.getfield 104, 3) := by decide +kernel
theorem dX8_termOf_50 : decode cX8_termOf 50 = .ok (.aload_n 0, 1) := by decide +kernel
theorem dX8_termOf_51 : decode cX8_termOf 51 = .ok (.getfield 98, 3) := by decide +kernel
theorem dX8_termOf_54 : decode cX8_termOf 54 = .ok (.iload 4, 2) := by decide +kernel
theorem dX8_termOf_56 : decode cX8_termOf 56 = .ok (.iaload, 1) := by decide +kernel
theorem dX8_termOf_57 : decode cX8_termOf 57 = .ok (.iaload, 1) := by decide +kernel
theorem dX8_termOf_58 : decode cX8_termOf 58 = .ok (.iastore, 1) := by decide +kernel
theorem dX8_termOf_59 : decode cX8_termOf 59 = .ok (.iinc 3 1, 3) := by decide +kernel
theorem dX8_termOf_62 : decode cX8_termOf 62 = .ok (.goto 97, 3) := by decide +kernel
theorem dX8_termOf_65 : decode cX8_termOf 65 = .ok (.iinc 3 (-1), 3) := by decide +kernel
theorem dX8_termOf_68 : decode cX8_termOf 68 = .ok (.aload_n 0, 1) := by decide +kernel
theorem dX8_termOf_69 : decode cX8_termOf 69 = .ok (.getfield 107, 3) := by decide +kernel
theorem dX8_termOf_72 : decode cX8_termOf 72 = .ok (.iload_n 3, 1) := by decide +kernel
theorem dX8_termOf_73 : decode cX8_termOf 73 = .ok (.iconst 1, 1) := by decide +kernel
theorem dX8_termOf_74 : decode cX8_termOf 74 = .ok (.isub, 1) := by decide +kernel
theorem dX8_termOf_75 : decode cX8_termOf 75 = .ok (.iaload, 1) := by decide +kernel
theorem dX8_termOf_76 : decode cX8_termOf 76 = .ok (.istore 6, 2) := by decide +kernel
theorem dX8_termOf_78 : decode cX8_termOf 78 = .ok (.aload_n 0, 1) := by decide +kernel
theorem dX8_termOf_79 : decode cX8_termOf 79 = .ok (.getfield 107, 3) := by decide +kernel
theorem dX8_termOf_82 : decode cX8_termOf 82 = .ok (.iload_n 3, 1) := by decide +kernel
theorem dX8_termOf_83 : decode cX8_termOf 83 = .ok (.iaload, 1) := by decide +kernel
theorem dX8_termOf_84 : decode cX8_termOf 84 = .ok (.istore 7, 2) := by decide +kernel
theorem dX8_termOf_86 : decode cX8_termOf 86 = .ok (.iload 5, 2) := by decide +kernel
theorem dX8_termOf_88 : decode cX8_termOf 88 = .ok (.iconst 5, 1) := by decide +kernel
theorem dX8_termOf_89 : decode cX8_termOf 89 = .ok (.if_icmp .ne 15, 3) := by decide +kernel
theorem dX8_termOf_92 : decode cX8_termOf 92 = .ok (.iload 7, 2) := by decide +kernel
theorem dX8_termOf_94 : decode cX8_termOf 94 = .ok (.ifCond .ne 10, 3) := by decide +kernel
theorem dX8_termOf_97 : decode cX8_termOf 97 = .ok (.aload_n 0, 1) := by decide +kernel
theorem dX8_termOf_98 : decode cX8_termOf 98 = .ok (.iconst 1, 1) := by decide +kernel
theorem dX8_termOf_99 : decode cX8_termOf 99 = .ok (.putfield 299, 3) := by decide +kernel
theorem dX8_termOf_102 : decode cX8_termOf 102 = .ok (.iconst 0, 1) := by decide +kernel
theorem dX8_termOf_103 : decode cX8_termOf 103 = .ok (.ireturn, 1) := by decide +kernel
theorem dX8_termOf_104 : decode cX8_termOf 104 = .ok (.aload_n 0, 1) := by decide +kernel
theorem dX8_termOf_105 : decode cX8_termOf 105 = .ok (.getfield 107, 3) := by decide +kernel
theorem dX8_termOf_108 : decode cX8_termOf 108 = .ok (.iload_n 3, 1) := by decide +kernel
theorem dX8_termOf_109 : decode cX8_termOf 109 = .ok (.iconst 1, 1) := by decide +kernel
theorem dX8_termOf_110 : decode cX8_termOf 110 = .ok (.isub, 1) := by decide +kernel
theorem dX8_termOf_111 : decode cX8_termOf 111 = .ok (.iload 5, 2) := by decide +kernel
theorem dX8_termOf_113 : decode cX8_termOf 113 = .ok (.iconst 2, 1) := by decide +kernel
theorem dX8_termOf_114 : decode cX8_termOf 114 = .ok (.if_icmp .ne 11, 3) := by decide +kernel
theorem dX8_termOf_117 : decode cX8_termOf 117 = .ok (.iload 6, 2) := by decide +kernel
theorem dX8_termOf_119 : decode cX8_termOf 119 = .ok (.iload 7, 2) := by decide +kernel
theorem dX8_termOf_121 : decode cX8_termOf 121 = .ok (.iadd, 1) := by decide +kernel
theorem dX8_termOf_122 : decode cX8_termOf 122 = .ok (.goto 36, 3) := by decide +kernel
theorem dX8_termOf_125 : decode cX8_termOf 125 = .ok (.iload 5, 2) := by decide +kernel
theorem dX8_termOf_127 : decode cX8_termOf 127 = .ok (.iconst 3, 1) := by decide +kernel
theorem dX8_termOf_128 : decode cX8_termOf 128 = .ok (.if_icmp .ne 11, 3) := by decide +kernel
theorem dX8_termOf_131 : decode cX8_termOf 131 = .ok (.iload 6, 2) := by decide +kernel
theorem dX8_termOf_133 : decode cX8_termOf 133 = .ok (.iload 7, 2) := by decide +kernel
theorem dX8_termOf_135 : decode cX8_termOf 135 = .ok (.isub, 1) := by decide +kernel
theorem dX8_termOf_136 : decode cX8_termOf 136 = .ok (.goto 22, 3) := by decide +kernel
theorem dX8_termOf_139 : decode cX8_termOf 139 = .ok (.iload 5, 2) := by decide +kernel
theorem dX8_termOf_141 : decode cX8_termOf 141 = .ok (.iconst 4, 1) := by decide +kernel
theorem dX8_termOf_142 : decode cX8_termOf 142 = .ok (.if_icmp .ne 11, 3) := by decide +kernel
theorem dX8_termOf_145 : decode cX8_termOf 145 = .ok (.iload 6, 2) := by decide +kernel
theorem dX8_termOf_147 : decode cX8_termOf 147 = .ok (.iload 7, 2) := by decide +kernel
theorem dX8_termOf_149 : decode cX8_termOf 149 = .ok (.imul, 1) := by decide +kernel
theorem dX8_termOf_150 : decode cX8_termOf 150 = .ok (.goto 8, 3) := by decide +kernel
theorem dX8_termOf_153 : decode cX8_termOf 153 = .ok (.iload 6, 2) := by decide +kernel
theorem dX8_termOf_155 : decode cX8_termOf 155 = .ok (.iload 7, 2) := by decide +kernel
theorem dX8_termOf_157 : decode cX8_termOf 157 = .ok (.idiv, 1) := by decide +kernel
theorem dX8_termOf_158 : decode cX8_termOf 158 = .ok (.iastore, 1) := by decide +kernel
theorem dX8_termOf_159 : decode cX8_termOf 159 = .ok (.iinc 4 1, 3) := by decide +kernel
theorem dX8_termOf_162 : decode cX8_termOf 162 = .ok (.goto (-157), 3) := by decide +kernel
theorem dX8_termOf_165 : decode cX8_termOf 165 = .ok (.aload_n 0, 1) := by decide +kernel
theorem dX8_termOf_166 : decode cX8_termOf 166 = .ok (.getfield 107, 3) := by decide +kernel
theorem dX8_termOf_169 : decode cX8_termOf 169 = .ok (.iconst 0, 1) := by decide +kernel
theorem dX8_termOf_170 : decode cX8_termOf 170 = .ok (.iaload, 1) := by decide +kernel
theorem dX8_termOf_171 : decode cX8_termOf 171 = .ok (.ireturn, 1) := by decide +kernel
theorem dX8_in_0 : decode cX8_in 0 = .ok (.iload_n 0, 1) := by decide +kernel
theorem dX8_in_1 : decode cX8_in 1 = .ok (.iload_n 1, 1) := by decide +kernel
theorem dX8_in_2 : decode cX8_in 2 = .ok (.if_icmp .lt 12, 3) := by decide +kernel
theorem dX8_in_5 : decode cX8_in 5 = .ok (.iload_n 0, 1) := by decide +kernel
theorem dX8_in_6 : decode cX8_in 6 = .ok (.iload_n 2, 1) := by decide +kernel
theorem dX8_in_7 : decode cX8_in 7 = .ok (.if_icmp .gt 7, 3) := by decide +kernel
theorem dX8_in_10 : decode cX8_in 10 = .ok (.iconst 1, 1) := by decide +kernel
theorem dX8_in_11 : decode cX8_in 11 = .ok (.goto 4, 3) := by decide +kernel
theorem dX8_in_14 : decode cX8_in 14 = .ok (.iconst 0, 1) := by decide +kernel
theorem dX8_in_15 : decode cX8_in 15 = .ok (.ireturn, 1) := by decide +kernel
theorem dX8_bits_0 : decode cX8_bits 0 = .ok (.iconst 0, 1) := by decide +kernel
theorem dX8_bits_1 : decode cX8_bits 1 = .ok (.istore_n 1, 1) := by decide +kernel
theorem dX8_bits_2 : decode cX8_bits 2 = .ok (.iconst 0, 1) := by decide +kernel
theorem dX8_bits_3 : decode cX8_bits 3 = .ok (.istore_n 2, 1) := by decide +kernel
theorem dX8_bits_4 : decode cX8_bits 4 = .ok (.iload_n 2, 1) := by decide +kernel
theorem dX8_bits_5 : decode cX8_bits 5 = .ok (.bipush 6, 2) := by decide +kernel
theorem dX8_bits_7 : decode cX8_bits 7 = .ok (.if_icmp .ge 17, 3) := by decide +kernel
theorem dX8_bits_10 : decode cX8_bits 10 = .ok (.iload_n 1, 1) := by decide +kernel
theorem dX8_bits_11 : decode cX8_bits 11 = .ok (.iload_n 0, 1) := by decide +kernel
theorem dX8_bits_12 : decode cX8_bits 12 = .ok (.iload_n 2, 1) := by decide +kernel
theorem dX8_bits_13 : decode cX8_bits 13 = .ok (.ishr, 1) := by decide +kernel
theorem dX8_bits_14 : decode cX8_bits 14 = .ok (.iconst 1, 1) := by decide +kernel
theorem dX8_bits_15 : decode cX8_bits 15 = .ok (.iand, 1) := by decide +kernel
theorem dX8_bits_16 : decode cX8_bits 16 = .ok (.iadd, 1) := by decide +kernel
theorem dX8_bits_17 : decode cX8_bits 17 = .ok (.istore_n 1, 1) := by decide +kernel
theorem dX8_bits_18 : decode cX8_bits 18 = .ok (.iinc 2 1, 3) := by decide +kernel
theorem dX8_bits_21 : decode cX8_bits 21 = .ok (.goto (-17), 3) := by decide +kernel
theorem dX8_bits_24 : decode cX8_bits 24 = .ok (.iload_n 1, 1) := by decide +kernel
theorem dX8_bits_25 : decode cX8_bits 25 = .ok (.ireturn, 1) := by decide +kernel
theorem dX8_isBoat_0 : decode cX8_isBoat 0 = .ok (.iload_n 1, 1) := by decide +kernel
theorem dX8_isBoat_1 : decode cX8_isBoat 1 = .ok (.iconst 0, 1) := by decide +kernel
theorem dX8_isBoat_2 : decode cX8_isBoat 2 = .ok (.aload_n 0, 1) := by decide +kernel
theorem dX8_isBoat_3 : decode cX8_isBoat 3 = .ok (.getfield 52, 3) := by decide +kernel
theorem dX8_isBoat_6 : decode cX8_isBoat 6 = .ok (.aload_n 0, 1) := by decide +kernel
theorem dX8_isBoat_7 : decode cX8_isBoat 7 = .ok (.getfield 230, 3) := by decide +kernel
theorem dX8_isBoat_10 : decode cX8_isBoat 10 = .ok (.iaload, 1) := by decide +kernel
theorem dX8_isBoat_11 : decode cX8_isBoat 11 = .ok (.iconst 1, 1) := by decide +kernel
theorem dX8_isBoat_12 : decode cX8_isBoat 12 = .ok (.isub, 1) := by decide +kernel
theorem dX8_isBoat_13 : decode cX8_isBoat 13 = .ok (.invokestatic 303, 3) := by decide +kernel
theorem dX8_isBoat_16 : decode cX8_isBoat 16 = .ok (.ireturn, 1) := by decide +kernel
theorem dX8_isCell_0 : decode cX8_isCell 0 = .ok (.iload_n 1, 1) := by decide +kernel
theorem dX8_isCell_1 : decode cX8_isCell 1 = .ok (.iconst 0, 1) := by decide +kernel
theorem dX8_isCell_2 : decode cX8_isCell 2 = .ok (.aload_n 0, 1) := by decide +kernel
theorem dX8_isCell_3 : decode cX8_isCell 3 = .ok (.getfield 46, 3) := by decide +kernel
theorem dX8_isCell_6 : decode cX8_isCell 6 = .ok (.aload_n 0, 1) := by decide +kernel
theorem dX8_isCell_7 : decode cX8_isCell 7 = .ok (.getfield 230, 3) := by decide +kernel
theorem dX8_isCell_10 : decode cX8_isCell 10 = .ok (.iaload, 1) := by decide +kernel
theorem dX8_isCell_11 : decode cX8_isCell 11 = .ok (.iconst 1, 1) := by decide +kernel
theorem dX8_isCell_12 : decode cX8_isCell 12 = .ok (.isub, 1) := by decide +kernel
theorem dX8_isCell_13 : decode cX8_isCell 13 = .ok (.invokestatic 303, 3) := by decide +kernel
theorem dX8_isCell_16 : decode cX8_isCell 16 = .ok (.ifCond .eq 26, 3) := by decide +kernel
theorem dX8_isCell_19 : decode cX8_isCell 19 = .ok (.iload_n 2, 1) := by decide +kernel
theorem dX8_isCell_20 : decode cX8_isCell 20 = .ok (.iconst 0, 1) := by decide +kernel
theorem dX8_isCell_21 : decode cX8_isCell 21 = .ok (.aload_n 0, 1) := by decide +kernel
theorem dX8_isCell_22 : decode cX8_isCell 22 = .ok (.getfield 43, 3) := by decide +kernel
theorem dX8_isCell_25 : decode cX8_isCell 25 = .ok (.aload_n 0, 1) := by decide +kernel
theorem dX8_isCell_26 : decode cX8_isCell 26 = .ok (.getfield 230, 3) := by decide +kernel
theorem dX8_isCell_29 : decode cX8_isCell 29 = .ok (.iaload, 1) := by decide +kernel
theorem dX8_isCell_30 : decode cX8_isCell 30 = .ok (.iconst 1, 1) := by decide +kernel
theorem dX8_isCell_31 : decode cX8_isCell 31 = .ok (.isub, 1) := by decide +kernel
theorem dX8_isCell_32 : decode cX8_isCell 32 = .ok (.invokestatic 303, 3) := by decide +kernel
theorem dX8_isCell_35 : decode cX8_isCell 35 = .ok (.ifCond .eq 7, 3) := by decide +kernel
theorem dX8_isCell_38 : decode cX8_isCell 38 = .ok (.iconst 1, 1) := by decide +kernel
theorem dX8_isCell_39 : decode cX8_isCell 39 = .ok (.goto 4, 3) := by decide +kernel
theorem dX8_isCell_42 : decode cX8_isCell 42 = .ok (.iconst 0, 1) := by decide +kernel
theorem dX8_isCell_43 : decode cX8_isCell 43 = .ok (.ireturn, 1) := by decide +kernel
theorem dX8_sortAt_0 : decode cX8_sortAt 0 = .ok (.bipush 8, 2) := by decide +kernel
theorem dX8_sortAt_2 : decode cX8_sortAt 2 = .ok (.iload_n 2, 1) := by decide +kernel
theorem dX8_sortAt_3 : decode cX8_sortAt 3 = .ok (.imul, 1) := by decide +kernel
theorem dX8_sortAt_4 : decode cX8_sortAt 4 = .ok (.iload_n 1, 1) := by decide +kernel
theorem dX8_sortAt_5 : decode cX8_sortAt 5 = .ok (.iadd, 1) := by decide +kernel
theorem dX8_sortAt_6 : decode cX8_sortAt 6 = .ok (.aload_n 0, 1) := by decide +kernel
theorem dX8_sortAt_7 : decode cX8_sortAt 7 = .ok (.getfield 307, 3) := by decide +kernel
theorem dX8_sortAt_10 : decode cX8_sortAt 10 = .ok (.if_icmp .ne 7, 3) := by decide +kernel
theorem dX8_sortAt_13 : decode cX8_sortAt 13 = .ok (.iconst 1, 1) := by decide +kernel
theorem dX8_sortAt_14 : decode cX8_sortAt 14 = .ok (.goto 22, 3) := by decide +kernel
theorem dX8_sortAt_17 : decode cX8_sortAt 17 = .ok (.aload_n 0, 1) := by decide +kernel
theorem dX8_sortAt_18 : decode cX8_sortAt 18 = .ok (.getfield 49, 3) := by decide +kernel
theorem dX8_sortAt_21 : decode cX8_sortAt 21 = .ok (.bipush 40, 2) := by decide +kernel
theorem dX8_sortAt_23 : decode cX8_sortAt 23 = .ok (.aload_n 0, 1) := by decide +kernel
theorem dX8_sortAt_24 : decode cX8_sortAt 24 = .ok (.getfield 230, 3) := by decide +kernel
theorem dX8_sortAt_27 : decode cX8_sortAt 27 = .ok (.imul, 1) := by decide +kernel
theorem dX8_sortAt_28 : decode cX8_sortAt 28 = .ok (.bipush 8, 2) := by decide +kernel
theorem dX8_sortAt_30 : decode cX8_sortAt 30 = .ok (.iload_n 2, 1) := by decide +kernel
theorem dX8_sortAt_31 : decode cX8_sortAt 31 = .ok (.imul, 1) := by decide +kernel
theorem dX8_sortAt_32 : decode cX8_sortAt 32 = .ok (.iadd, 1) := by decide +kernel
theorem dX8_sortAt_33 : decode cX8_sortAt 33 = .ok (.iload_n 1, 1) := by decide +kernel
theorem dX8_sortAt_34 : decode cX8_sortAt 34 = .ok (.iadd, 1) := by decide +kernel
theorem dX8_sortAt_35 : decode cX8_sortAt 35 = .ok (.iaload, 1) := by decide +kernel
theorem dX8_sortAt_36 : decode cX8_sortAt 36 = .ok (.ireturn, 1) := by decide +kernel
theorem dX8_isSailing_0 : decode cX8_isSailing 0 = .ok (.iload_n 1, 1) := by decide +kernel
theorem dX8_isSailing_1 : decode cX8_isSailing 1 = .ok (.aload_n 0, 1) := by decide +kernel
theorem dX8_isSailing_2 : decode cX8_isSailing 2 = .ok (.getfield 310, 3) := by decide +kernel
theorem dX8_isSailing_5 : decode cX8_isSailing 5 = .ok (.if_icmp .eq 31, 3) := by decide +kernel
theorem dX8_isSailing_8 : decode cX8_isSailing 8 = .ok (.aload_n 0, 1) := by decide +kernel
theorem dX8_isSailing_9 : decode cX8_isSailing 9 = .ok (.getfield 113, 3) := by decide +kernel
theorem dX8_isSailing_12 : decode cX8_isSailing 12 = .ok (.bipush 12, 2) := by decide +kernel
theorem dX8_isSailing_14 : decode cX8_isSailing 14 = .ok (.iload_n 1, 1) := by decide +kernel
theorem dX8_isSailing_15 : decode cX8_isSailing 15 = .ok (.iadd, 1) := by decide +kernel
theorem dX8_isSailing_16 : decode cX8_isSailing 16 = .ok (.iaload, 1) := by decide +kernel
theorem dX8_isSailing_17 : decode cX8_isSailing 17 = .ok (.ifCond .ne 19, 3) := by decide +kernel
theorem dX8_isSailing_20 : decode cX8_isSailing 20 = .ok (.aload_n 0, 1) := by decide +kernel
theorem dX8_isSailing_21 : decode cX8_isSailing 21 = .ok (.getfield 113, 3) := by decide +kernel
theorem dX8_isSailing_24 : decode cX8_isSailing 24 = .ok (.bipush 18, 2) := by decide +kernel
theorem dX8_isSailing_26 : decode cX8_isSailing 26 = .ok (.iload_n 1, 1) := by decide +kernel
theorem dX8_isSailing_27 : decode cX8_isSailing 27 = .ok (.iadd, 1) := by decide +kernel
theorem dX8_isSailing_28 : decode cX8_isSailing 28 = .ok (.iaload, 1) := by decide +kernel
theorem dX8_isSailing_29 : decode cX8_isSailing 29 = .ok (.ifCond .ne 7, 3) := by decide +kernel
theorem dX8_isSailing_32 : decode cX8_isSailing 32 = .ok (.iconst 1, 1) := by decide +kernel
theorem dX8_isSailing_33 : decode cX8_isSailing 33 = .ok (.goto 4, 3) := by decide +kernel
theorem dX8_isSailing_36 : decode cX8_isSailing 36 = .ok (.iconst 0, 1) := by decide +kernel
theorem dX8_isSailing_37 : decode cX8_isSailing 37 = .ok (.ireturn, 1) := by decide +kernel
theorem dX8_plainly_0 : decode cX8_plainly 0 = .ok (.aload_n 0, 1) := by decide +kernel
theorem dX8_plainly_1 : decode cX8_plainly 1 = .ok (.aload_n 0, 1) := by decide +kernel
theorem dX8_plainly_2 : decode cX8_plainly 2 = .ok (.getfield 70, 3) := by decide +kernel
theorem dX8_plainly_5 : decode cX8_plainly 5 = .ok (.aload_n 0, 1) := by decide +kernel
theorem dX8_plainly_6 : decode cX8_plainly 6 = .ok (.getfield 230, 3) := by decide +kernel
theorem dX8_plainly_9 : decode cX8_plainly 9 = .ok (.iaload, 1) := by decide +kernel
theorem dX8_plainly_10 : decode cX8_plainly 10 = .ok (.putfield 313, 3) := by decide +kernel
theorem dX8_plainly_13 : decode cX8_plainly 13 = .ok (.aload_n 0, 1) := by decide +kernel
theorem dX8_plainly_14 : decode cX8_plainly 14 = .ok (.iconst (-1), 1) := by decide +kernel
theorem dX8_plainly_15 : decode cX8_plainly 15 = .ok (.putfield 310, 3) := by decide +kernel
theorem dX8_plainly_18 : decode cX8_plainly 18 = .ok (.aload_n 0, 1) := by decide +kernel
theorem dX8_plainly_19 : decode cX8_plainly 19 = .ok (.iconst (-1), 1) := by decide +kernel
theorem dX8_plainly_20 : decode cX8_plainly 20 = .ok (.putfield 307, 3) := by decide +kernel
theorem dX8_plainly_23 : decode cX8_plainly 23 = .ok (.return_, 1) := by decide +kernel
theorem dX8_homeIs_0 : decode cX8_homeIs 0 = .ok (.aload_n 0, 1) := by decide +kernel
theorem dX8_homeIs_1 : decode cX8_homeIs 1 = .ok (.getfield 113, 3) := by decide +kernel
theorem dX8_homeIs_4 : decode cX8_homeIs 4 = .ok (.bipush 31, 2) := by decide +kernel
theorem dX8_homeIs_6 : decode cX8_homeIs 6 = .ok (.dup2, 1) := by decide +kernel
theorem dX8_homeIs_7 : decode cX8_homeIs 7 = .ok (.iaload, 1) := by decide +kernel
theorem dX8_homeIs_8 : decode cX8_homeIs 8 = .ok (.iconst 1, 1) := by decide +kernel
theorem dX8_homeIs_9 : decode cX8_homeIs 9 = .ok (.iadd, 1) := by decide +kernel
theorem dX8_homeIs_10 : decode cX8_homeIs 10 = .ok (.iastore, 1) := by decide +kernel
theorem dX8_homeIs_11 : decode cX8_homeIs 11 = .ok (.aload_n 0, 1) := by decide +kernel
theorem dX8_homeIs_12 : decode cX8_homeIs 12 = .ok (.getfield 113, 3) := by decide +kernel
theorem dX8_homeIs_15 : decode cX8_homeIs 15 = .ok (.bipush 12, 2) := by decide +kernel
theorem dX8_homeIs_17 : decode cX8_homeIs 17 = .ok (.iload_n 1, 1) := by decide +kernel
theorem dX8_homeIs_18 : decode cX8_homeIs 18 = .ok (.iadd, 1) := by decide +kernel
theorem dX8_homeIs_19 : decode cX8_homeIs 19 = .ok (.aload_n 0, 1) := by decide +kernel
theorem dX8_homeIs_20 : decode cX8_homeIs 20 = .ok (.getfield 113, 3) := by decide +kernel
theorem dX8_homeIs_23 : decode cX8_homeIs 23 = .ok (.bipush 31, 2) := by decide +kernel
theorem dX8_homeIs_25 : decode cX8_homeIs 25 = .ok (.iaload, 1) := by decide +kernel
theorem dX8_homeIs_26 : decode cX8_homeIs 26 = .ok (.iastore, 1) := by decide +kernel
theorem dX8_homeIs_27 : decode cX8_homeIs 27 = .ok (.return_, 1) := by decide +kernel
theorem dX8_beginsBy_0 : decode cX8_beginsBy 0 = .ok (.aload_n 0, 1) := by decide +kernel
theorem dX8_beginsBy_1 : decode cX8_beginsBy 1 = .ok (.invokevirtual 316, 3) := by decide +kernel
theorem dX8_beginsBy_4 : decode cX8_beginsBy 4 = .ok (.aload_n 0, 1) := by decide +kernel
theorem dX8_beginsBy_5 : decode cX8_beginsBy 5 = .ok (.iload_n 1, 1) := by decide +kernel
theorem dX8_beginsBy_6 : decode cX8_beginsBy 6 = .ok (.putfield 307, 3) := by decide +kernel
theorem dX8_beginsBy_9 : decode cX8_beginsBy 9 = .ok (.iconst 0, 1) := by decide +kernel
theorem dX8_beginsBy_10 : decode cX8_beginsBy 10 = .ok (.istore_n 2, 1) := by decide +kernel
theorem dX8_beginsBy_11 : decode cX8_beginsBy 11 = .ok (.iload_n 2, 1) := by decide +kernel
theorem dX8_beginsBy_12 : decode cX8_beginsBy 12 = .ok (.sipush 512, 3) := by decide +kernel
theorem dX8_beginsBy_15 : decode cX8_beginsBy 15 = .ok (.if_icmp .ge 27, 3) := by decide +kernel
theorem dX8_beginsBy_18 : decode cX8_beginsBy 18 = .ok (.aload_n 0, 1) := by decide +kernel
theorem dX8_beginsBy_19 : decode cX8_beginsBy 19 = .ok (.getfield 113, 3) := by decide +kernel
theorem dX8_beginsBy_22 : decode cX8_beginsBy 22 = .ok (.iload_n 2, 1) := by decide +kernel
theorem dX8_beginsBy_23 : decode cX8_beginsBy 23 = .ok (.iload_n 2, 1) := by decide +kernel
theorem dX8_beginsBy_24 : decode cX8_beginsBy 24 = .ok (.bipush 32, 2) := by decide +kernel
theorem dX8_beginsBy_26 : decode cX8_beginsBy 26 = .ok (.if_icmp .ge 7, 3) := by decide +kernel
theorem dX8_beginsBy_29 : decode cX8_beginsBy 29 = .ok (.iconst 0, 1) := by decide +kernel
theorem dX8_beginsBy_30 : decode cX8_beginsBy 30 = .ok (.goto 5, 3) := by decide +kernel
theorem dX8_beginsBy_33 : decode cX8_beginsBy 33 = .ok (.bipush (-2), 2) := by decide +kernel
theorem dX8_beginsBy_35 : decode cX8_beginsBy 35 = .ok (.iastore, 1) := by decide +kernel
theorem dX8_beginsBy_36 : decode cX8_beginsBy 36 = .ok (.iinc 2 1, 3) := by decide +kernel
theorem dX8_beginsBy_39 : decode cX8_beginsBy 39 = .ok (.goto (-28), 3) := by decide +kernel
theorem dX8_beginsBy_42 : decode cX8_beginsBy 42 = .ok (.iconst 0, 1) := by decide +kernel
theorem dX8_beginsBy_43 : decode cX8_beginsBy 43 = .ok (.istore_n 2, 1) := by decide +kernel
theorem dX8_beginsBy_44 : decode cX8_beginsBy 44 = .ok (.iload_n 2, 1) := by decide +kernel
theorem dX8_beginsBy_45 : decode cX8_beginsBy 45 = .ok (.aload_n 0, 1) := by decide +kernel
theorem dX8_beginsBy_46 : decode cX8_beginsBy 46 = .ok (.getfield 52, 3) := by decide +kernel
theorem dX8_beginsBy_49 : decode cX8_beginsBy 49 = .ok (.aload_n 0, 1) := by decide +kernel
theorem dX8_beginsBy_50 : decode cX8_beginsBy 50 = .ok (.getfield 230, 3) := by decide +kernel
theorem dX8_beginsBy_53 : decode cX8_beginsBy 53 = .ok (.iaload, 1) := by decide +kernel
theorem dX8_beginsBy_54 : decode cX8_beginsBy 54 = .ok (.if_icmp .ge 90, 3) := by decide +kernel
theorem dX8_beginsBy_57 : decode cX8_beginsBy 57 = .ok (.aload_n 0, 1) := by decide +kernel
theorem dX8_beginsBy_58 : decode cX8_beginsBy 58 = .ok (.getfield 113, 3) := by decide +kernel
theorem dX8_beginsBy_61 : decode cX8_beginsBy 61 = .ok (.iload_n 2, 1) := by decide +kernel
theorem dX8_beginsBy_62 : decode cX8_beginsBy 62 = .ok (.aload_n 0, 1) := by decide +kernel
theorem dX8_beginsBy_63 : decode cX8_beginsBy 63 = .ok (.getfield 55, 3) := by decide +kernel
theorem dX8_beginsBy_66 : decode cX8_beginsBy 66 = .ok (.bipush 6, 2) := by decide +kernel
theorem dX8_beginsBy_68 : decode cX8_beginsBy 68 = .ok (.aload_n 0, 1) := by decide +kernel
theorem dX8_beginsBy_69 : decode cX8_beginsBy 69 = .ok (.getfield 230, 3) := by decide +kernel
theorem dX8_beginsBy_72 : decode cX8_beginsBy 72 = .ok (.imul, 1) := by decide +kernel
theorem dX8_beginsBy_73 : decode cX8_beginsBy 73 = .ok (.iload_n 2, 1) := by decide +kernel
theorem dX8_beginsBy_74 : decode cX8_beginsBy 74 = .ok (.iadd, 1) := by decide +kernel
theorem dX8_beginsBy_75 : decode cX8_beginsBy 75 = .ok (.iaload, 1) := by decide +kernel
theorem dX8_beginsBy_76 : decode cX8_beginsBy 76 = .ok (.iastore, 1) := by decide +kernel
theorem dX8_beginsBy_77 : decode cX8_beginsBy 77 = .ok (.aload_n 0, 1) := by decide +kernel
theorem dX8_beginsBy_78 : decode cX8_beginsBy 78 = .ok (.getfield 113, 3) := by decide +kernel
theorem dX8_beginsBy_81 : decode cX8_beginsBy 81 = .ok (.bipush 6, 2) := by decide +kernel
theorem dX8_beginsBy_83 : decode cX8_beginsBy 83 = .ok (.iload_n 2, 1) := by decide +kernel
theorem dX8_beginsBy_84 : decode cX8_beginsBy 84 = .ok (.iadd, 1) := by decide +kernel
theorem dX8_beginsBy_85 : decode cX8_beginsBy 85 = .ok (.aload_n 0, 1) := by decide +kernel
theorem dX8_beginsBy_86 : decode cX8_beginsBy 86 = .ok (.getfield 58, 3) := by decide +kernel
theorem dX8_beginsBy_89 : decode cX8_beginsBy 89 = .ok (.bipush 6, 2) := by decide +kernel
theorem dX8_beginsBy_91 : decode cX8_beginsBy 91 = .ok (.aload_n 0, 1) := by decide +kernel
theorem dX8_beginsBy_92 : decode cX8_beginsBy 92 = .ok (.getfield 230, 3) := by decide +kernel
theorem dX8_beginsBy_95 : decode cX8_beginsBy 95 = .ok (.imul, 1) := by decide +kernel
theorem dX8_beginsBy_96 : decode cX8_beginsBy 96 = .ok (.iload_n 2, 1) := by decide +kernel
theorem dX8_beginsBy_97 : decode cX8_beginsBy 97 = .ok (.iadd, 1) := by decide +kernel
theorem dX8_beginsBy_98 : decode cX8_beginsBy 98 = .ok (.iaload, 1) := by decide +kernel
theorem dX8_beginsBy_99 : decode cX8_beginsBy 99 = .ok (.iastore, 1) := by decide +kernel
theorem dX8_beginsBy_100 : decode cX8_beginsBy 100 = .ok (.aload_n 0, 1) := by decide +kernel
theorem dX8_beginsBy_101 : decode cX8_beginsBy 101 = .ok (.getfield 113, 3) := by decide +kernel
theorem dX8_beginsBy_104 : decode cX8_beginsBy 104 = .ok (.bipush 24, 2) := by decide +kernel
theorem dX8_beginsBy_106 : decode cX8_beginsBy 106 = .ok (.iload_n 2, 1) := by decide +kernel
theorem dX8_beginsBy_107 : decode cX8_beginsBy 107 = .ok (.iadd, 1) := by decide +kernel
theorem dX8_beginsBy_108 : decode cX8_beginsBy 108 = .ok (.iconst 1, 1) := by decide +kernel
theorem dX8_beginsBy_109 : decode cX8_beginsBy 109 = .ok (.iastore, 1) := by decide +kernel
theorem dX8_beginsBy_110 : decode cX8_beginsBy 110 = .ok (.aload_n 0, 1) := by decide +kernel
theorem dX8_beginsBy_111 : decode cX8_beginsBy 111 = .ok (.aload_n 0, 1) := by decide +kernel
theorem dX8_beginsBy_112 : decode cX8_beginsBy 112 = .ok (.getfield 113, 3) := by decide +kernel
theorem dX8_beginsBy_115 : decode cX8_beginsBy 115 = .ok (.iload_n 2, 1) := by decide +kernel
theorem dX8_beginsBy_116 : decode cX8_beginsBy 116 = .ok (.iaload, 1) := by decide +kernel
theorem dX8_beginsBy_117 : decode cX8_beginsBy 117 = .ok (.aload_n 0, 1) := by decide +kernel
theorem dX8_beginsBy_118 : decode cX8_beginsBy 118 = .ok (.getfield 113, 3) := by decide +kernel
theorem dX8_beginsBy_121 : decode cX8_beginsBy 121 = .ok (.bipush 6, 2) := by decide +kernel
theorem dX8_beginsBy_123 : decode cX8_beginsBy 123 = .ok (.iload_n 2, 1) := by decide +kernel
theorem dX8_beginsBy_124 : decode cX8_beginsBy 124 = .ok (.iadd, 1) := by decide +kernel
theorem dX8_beginsBy_125 : decode cX8_beginsBy 125 = .ok (.iaload, 1) := by decide +kernel
theorem dX8_beginsBy_126 : decode cX8_beginsBy 126 = .ok (.invokevirtual 319, 3) := by decide +kernel
theorem dX8_beginsBy_129 : decode cX8_beginsBy 129 = .ok (.iconst 2, 1) := by decide +kernel
theorem dX8_beginsBy_130 : decode cX8_beginsBy 130 = .ok (.if_icmp .ne 8, 3) := by decide +kernel
theorem dX8_beginsBy_133 : decode cX8_beginsBy 133 = .ok (.aload_n 0, 1) := by decide +kernel
theorem dX8_beginsBy_134 : decode cX8_beginsBy 134 = .ok (.iload_n 2, 1) := by decide +kernel
theorem dX8_beginsBy_135 : decode cX8_beginsBy 135 = .ok (.invokevirtual 322, 3) := by decide +kernel
theorem dX8_beginsBy_138 : decode cX8_beginsBy 138 = .ok (.iinc 2 1, 3) := by decide +kernel
theorem dX8_beginsBy_141 : decode cX8_beginsBy 141 = .ok (.goto (-97), 3) := by decide +kernel
theorem dX8_beginsBy_144 : decode cX8_beginsBy 144 = .ok (.aload_n 0, 1) := by decide +kernel
theorem dX8_beginsBy_145 : decode cX8_beginsBy 145 = .ok (.invokevirtual 325, 3) := by decide +kernel
theorem dX8_beginsBy_148 : decode cX8_beginsBy 148 = .ok (.return_, 1) := by decide +kernel
theorem dX8_begins_0 : decode cX8_begins 0 = .ok (.aload_n 0, 1) := by decide +kernel
theorem dX8_begins_1 : decode cX8_begins 1 = .ok (.iconst (-1), 1) := by decide +kernel
theorem dX8_begins_2 : decode cX8_begins 2 = .ok (.invokevirtual 328, 3) := by decide +kernel
theorem dX8_begins_5 : decode cX8_begins 5 = .ok (.return_, 1) := by decide +kernel
theorem dX8_keepsRow_0 : decode cX8_keepsRow 0 = .ok (.iconst 0, 1) := by decide +kernel
theorem dX8_keepsRow_1 : decode cX8_keepsRow 1 = .ok (.istore_n 1, 1) := by decide +kernel
theorem dX8_keepsRow_2 : decode cX8_keepsRow 2 = .ok (.iload_n 1, 1) := by decide +kernel
theorem dX8_keepsRow_3 : decode cX8_keepsRow 3 = .ok (.sipush 512, 3) := by decide +kernel
theorem dX8_keepsRow_6 : decode cX8_keepsRow 6 = .ok (.if_icmp .ge 21, 3) := by decide +kernel
theorem dX8_keepsRow_9 : decode cX8_keepsRow 9 = .ok (.aload_n 0, 1) := by decide +kernel
theorem dX8_keepsRow_10 : decode cX8_keepsRow 10 = .ok (.getfield 110, 3) := by decide +kernel
theorem dX8_keepsRow_13 : decode cX8_keepsRow 13 = .ok (.iload_n 1, 1) := by decide +kernel
theorem dX8_keepsRow_14 : decode cX8_keepsRow 14 = .ok (.aload_n 0, 1) := by decide +kernel
theorem dX8_keepsRow_15 : decode cX8_keepsRow 15 = .ok (.getfield 113, 3) := by decide +kernel
theorem dX8_keepsRow_18 : decode cX8_keepsRow 18 = .ok (.iload_n 1, 1) := by decide +kernel
theorem dX8_keepsRow_19 : decode cX8_keepsRow 19 = .ok (.iaload, 1) := by decide +kernel
theorem dX8_keepsRow_20 : decode cX8_keepsRow 20 = .ok (.iastore, 1) := by decide +kernel
theorem dX8_keepsRow_21 : decode cX8_keepsRow 21 = .ok (.iinc 1 1, 3) := by decide +kernel
theorem dX8_keepsRow_24 : decode cX8_keepsRow 24 = .ok (.goto (-22), 3) := by decide +kernel
theorem dX8_keepsRow_27 : decode cX8_keepsRow 27 = .ok (.return_, 1) := by decide +kernel
theorem dX8_copies_0 : decode cX8_copies 0 = .ok (.iconst 0, 1) := by decide +kernel
theorem dX8_copies_1 : decode cX8_copies 1 = .ok (.istore_n 1, 1) := by decide +kernel
theorem dX8_copies_2 : decode cX8_copies 2 = .ok (.iload_n 1, 1) := by decide +kernel
theorem dX8_copies_3 : decode cX8_copies 3 = .ok (.sipush 512, 3) := by decide +kernel
theorem dX8_copies_6 : decode cX8_copies 6 = .ok (.if_icmp .ge 21, 3) := by decide +kernel
theorem dX8_copies_9 : decode cX8_copies 9 = .ok (.aload_n 0, 1) := by decide +kernel
theorem dX8_copies_10 : decode cX8_copies 10 = .ok (.getfield 113, 3) := by decide +kernel
theorem dX8_copies_13 : decode cX8_copies 13 = .ok (.iload_n 1, 1) := by decide +kernel
theorem dX8_copies_14 : decode cX8_copies 14 = .ok (.aload_n 0, 1) := by decide +kernel
theorem dX8_copies_15 : decode cX8_copies 15 = .ok (.getfield 110, 3) := by decide +kernel
theorem dX8_copies_18 : decode cX8_copies 18 = .ok (.iload_n 1, 1) := by decide +kernel
theorem dX8_copies_19 : decode cX8_copies 19 = .ok (.iaload, 1) := by decide +kernel
theorem dX8_copies_20 : decode cX8_copies 20 = .ok (.iastore, 1) := by decide +kernel
theorem dX8_copies_21 : decode cX8_copies 21 = .ok (.iinc 1 1, 3) := by decide +kernel
theorem dX8_copies_24 : decode cX8_copies 24 = .ok (.goto (-22), 3) := by decide +kernel
theorem dX8_copies_27 : decode cX8_copies 27 = .ok (.aload_n 0, 1) := by decide +kernel
theorem dX8_copies_28 : decode cX8_copies 28 = .ok (.invokevirtual 316, 3) := by decide +kernel
theorem dX8_copies_31 : decode cX8_copies 31 = .ok (.return_, 1) := by decide +kernel
theorem dX8_mixed_0 : decode cX8_mixed 0 = .ok (.iload_n 0, 1) := by decide +kernel
theorem dX8_mixed_1 : decode cX8_mixed 1 = .ok (.iload_n 1, 1) := by decide +kernel
theorem dX8_mixed_2 : decode cX8_mixed 2 = .ok (.ixor, 1) := by decide +kernel
theorem dX8_mixed_3 : decode cX8_mixed 3 = .ok (.ldc_w 331, 3) := by decide +kernel
theorem dX8_mixed_6 : decode cX8_mixed 6 = .ok (.imul, 1) := by decide +kernel
theorem dX8_mixed_7 : decode cX8_mixed 7 = .ok (.sipush 12345, 3) := by decide +kernel
theorem dX8_mixed_10 : decode cX8_mixed 10 = .ok (.iadd, 1) := by decide +kernel
theorem dX8_mixed_11 : decode cX8_mixed 11 = .ok (.istore_n 2, 1) := by decide +kernel
theorem dX8_mixed_12 : decode cX8_mixed 12 = .ok (.iload_n 2, 1) := by decide +kernel
theorem dX8_mixed_13 : decode cX8_mixed 13 = .ok (.iload_n 2, 1) := by decide +kernel
theorem dX8_mixed_14 : decode cX8_mixed 14 = .ok (.bipush 15, 2) := by decide +kernel
theorem dX8_mixed_16 : decode cX8_mixed 16 = .ok (.iushr, 1) := by decide +kernel
theorem dX8_mixed_17 : decode cX8_mixed 17 = .ok (.ixor, 1) := by decide +kernel
theorem dX8_mixed_18 : decode cX8_mixed 18 = .ok (.ireturn, 1) := by decide +kernel
theorem dX8_hasCold_0 : decode cX8_hasCold 0 = .ok (.aload_n 0, 1) := by decide +kernel
theorem dX8_hasCold_1 : decode cX8_hasCold 1 = .ok (.getfield 313, 3) := by decide +kernel
theorem dX8_hasCold_4 : decode cX8_hasCold 4 = .ok (.bipush 69, 2) := by decide +kernel
theorem dX8_hasCold_6 : decode cX8_hasCold 6 = .ok (.invokestatic 332, 3) := by decide +kernel
theorem dX8_hasCold_9 : decode cX8_hasCold 9 = .ok (.bipush 16, 2) := by decide +kernel
theorem dX8_hasCold_11 : decode cX8_hasCold 11 = .ok (.aload_n 0, 1) := by decide +kernel
theorem dX8_hasCold_12 : decode cX8_hasCold 12 = .ok (.getfield 113, 3) := by decide +kernel
theorem dX8_hasCold_15 : decode cX8_hasCold 15 = .ok (.bipush 30, 2) := by decide +kernel
theorem dX8_hasCold_17 : decode cX8_hasCold 17 = .ok (.iaload, 1) := by decide +kernel
theorem dX8_hasCold_18 : decode cX8_hasCold 18 = .ok (.imul, 1) := by decide +kernel
theorem dX8_hasCold_19 : decode cX8_hasCold 19 = .ok (.iload_n 1, 1) := by decide +kernel
theorem dX8_hasCold_20 : decode cX8_hasCold 20 = .ok (.iadd, 1) := by decide +kernel
theorem dX8_hasCold_21 : decode cX8_hasCold 21 = .ok (.invokestatic 332, 3) := by decide +kernel
theorem dX8_hasCold_24 : decode cX8_hasCold 24 = .ok (.iconst 1, 1) := by decide +kernel
theorem dX8_hasCold_25 : decode cX8_hasCold 25 = .ok (.iushr, 1) := by decide +kernel
theorem dX8_hasCold_26 : decode cX8_hasCold 26 = .ok (.bipush 100, 2) := by decide +kernel
theorem dX8_hasCold_28 : decode cX8_hasCold 28 = .ok (.irem, 1) := by decide +kernel
theorem dX8_hasCold_29 : decode cX8_hasCold 29 = .ok (.aload_n 0, 1) := by decide +kernel
theorem dX8_hasCold_30 : decode cX8_hasCold 30 = .ok (.getfield 67, 3) := by decide +kernel
theorem dX8_hasCold_33 : decode cX8_hasCold 33 = .ok (.aload_n 0, 1) := by decide +kernel
theorem dX8_hasCold_34 : decode cX8_hasCold 34 = .ok (.getfield 230, 3) := by decide +kernel
theorem dX8_hasCold_37 : decode cX8_hasCold 37 = .ok (.iaload, 1) := by decide +kernel
theorem dX8_hasCold_38 : decode cX8_hasCold 38 = .ok (.if_icmp .ge 7, 3) := by decide +kernel
theorem dX8_hasCold_41 : decode cX8_hasCold 41 = .ok (.iconst 1, 1) := by decide +kernel
theorem dX8_hasCold_42 : decode cX8_hasCold 42 = .ok (.goto 4, 3) := by decide +kernel
theorem dX8_hasCold_45 : decode cX8_hasCold 45 = .ok (.iconst 0, 1) := by decide +kernel
theorem dX8_hasCold_46 : decode cX8_hasCold 46 = .ok (.ireturn, 1) := by decide +kernel
theorem dX8_looks_0 : decode cX8_looks 0 = .ok (.aload_n 0, 1) := by decide +kernel
theorem dX8_looks_1 : decode cX8_looks 1 = .ok (.getfield 104, 3) := by decide +kernel
theorem dX8_looks_4 : decode cX8_looks 4 = .ok (.iconst 0, 1) := by decide +kernel
theorem dX8_looks_5 : decode cX8_looks 5 = .ok (.iload_n 1, 1) := by decide +kernel
theorem dX8_looks_6 : decode cX8_looks 6 = .ok (.iastore, 1) := by decide +kernel
theorem dX8_looks_7 : decode cX8_looks 7 = .ok (.iconst 1, 1) := by decide +kernel
theorem dX8_looks_8 : decode cX8_looks 8 = .ok (.istore_n 2, 1) := by decide +kernel
theorem dX8_looks_9 : decode cX8_looks 9 = .ok (.iload_n 2, 1) := by decide +kernel
theorem dX8_looks_10 : decode cX8_looks 10 = .ok (.bipush 9, 2) := by decide +kernel
theorem dX8_looks_12 : decode cX8_looks 12 = .ok (.if_icmp .ge 16, 3) := by decide +kernel
theorem dX8_looks_15 : decode cX8_looks 15 = .ok (.aload_n 0, 1) := by decide +kernel
theorem dX8_looks_16 : decode cX8_looks 16 = .ok (.getfield 104, 3) := by decide +kernel
theorem dX8_looks_19 : decode cX8_looks 19 = .ok (.iload_n 2, 1) := by decide +kernel
theorem dX8_looks_20 : decode cX8_looks 20 = .ok (.iconst 0, 1) := by decide +kernel
theorem dX8_looks_21 : decode cX8_looks 21 = .ok (.iastore, 1) := by decide +kernel
theorem dX8_looks_22 : decode cX8_looks 22 = .ok (.iinc 2 1, 3) := by decide +kernel
theorem dX8_looks_25 : decode cX8_looks 25 = .ok (.goto (-16), 3) := by decide +kernel
theorem dX8_looks_28 : decode cX8_looks 28 = .ok (.return_, 1) := by decide +kernel
theorem dX8_asks_0 : decode cX8_asks 0 = .ok (.iconst 3, 1) := by decide +kernel
theorem dX8_asks_1 : decode cX8_asks 1 = .ok (.aload_n 0, 1) := by decide +kernel
theorem dX8_asks_2 : decode cX8_asks 2 = .ok (.getfield 230, 3) := by decide +kernel
theorem dX8_asks_5 : decode cX8_asks 5 = .ok (.imul, 1) := by decide +kernel
theorem dX8_asks_6 : decode cX8_asks 6 = .ok (.iload_n 1, 1) := by decide +kernel
theorem dX8_asks_7 : decode cX8_asks 7 = .ok (.iadd, 1) := by decide +kernel
theorem dX8_asks_8 : decode cX8_asks 8 = .ok (.istore_n 3, 1) := by decide +kernel
theorem dX8_asks_9 : decode cX8_asks 9 = .ok (.aload_n 0, 1) := by decide +kernel
theorem dX8_asks_10 : decode cX8_asks 10 = .ok (.getfield 73, 3) := by decide +kernel
theorem dX8_asks_13 : decode cX8_asks 13 = .ok (.iload_n 3, 1) := by decide +kernel
theorem dX8_asks_14 : decode cX8_asks 14 = .ok (.iaload, 1) := by decide +kernel
theorem dX8_asks_15 : decode cX8_asks 15 = .ok (.aload_n 0, 1) := by decide +kernel
theorem dX8_asks_16 : decode cX8_asks 16 = .ok (.getfield 76, 3) := by decide +kernel
theorem dX8_asks_19 : decode cX8_asks 19 = .ok (.iload_n 3, 1) := by decide +kernel
theorem dX8_asks_20 : decode cX8_asks 20 = .ok (.iaload, 1) := by decide +kernel
theorem dX8_asks_21 : decode cX8_asks 21 = .ok (.if_icmp .ne 5, 3) := by decide +kernel
theorem dX8_asks_24 : decode cX8_asks 24 = .ok (.iload_n 2, 1) := by decide +kernel
theorem dX8_asks_25 : decode cX8_asks 25 = .ok (.ireturn, 1) := by decide +kernel
theorem dX8_asks_26 : decode cX8_asks 26 = .ok (.aload_n 0, 1) := by decide +kernel
theorem dX8_asks_27 : decode cX8_asks 27 = .ok (.iconst 0, 1) := by decide +kernel
theorem dX8_asks_28 : decode cX8_asks 28 = .ok (.putfield 299, 3) := by decide +kernel
theorem dX8_asks_31 : decode cX8_asks 31 = .ok (.aload_n 0, 1) := by decide +kernel
theorem dX8_asks_32 : decode cX8_asks 32 = .ok (.getfield 73, 3) := by decide +kernel
theorem dX8_asks_35 : decode cX8_asks 35 = .ok (.iload_n 3, 1) := by decide +kernel
theorem dX8_asks_36 : decode cX8_asks 36 = .ok (.iaload, 1) := by decide +kernel
theorem dX8_asks_37 : decode cX8_asks 37 = .ok (.istore 4, 2) := by decide +kernel
theorem dX8_asks_39 : decode cX8_asks 39 = .ok (.iload 4, 2) := by decide +kernel
theorem dX8_asks_41 : decode cX8_asks 41 = .ok (.aload_n 0, 1) := by decide +kernel
theorem dX8_asks_42 : decode cX8_asks 42 = .ok (.getfield 76, 3) := by decide +kernel
theorem dX8_asks_45 : decode cX8_asks 45 = .ok (.iload_n 3, 1) := by decide +kernel
theorem dX8_asks_46 : decode cX8_asks 46 = .ok (.iaload, 1) := by decide +kernel
theorem dX8_asks_47 : decode cX8_asks 47 = .ok (.if_icmp .ge 112, 3) := by decide +kernel
theorem dX8_asks_50 : decode cX8_asks 50 = .ok (.aload_n 0, 1) := by decide +kernel
theorem dX8_asks_51 : decode cX8_asks 51 = .ok (.getfield 79, 3) := by decide +kernel
theorem dX8_asks_54 : decode cX8_asks 54 = .ok (.iload 4, 2) := by decide +kernel
theorem dX8_asks_56 : decode cX8_asks 56 = .ok (.baload, 1) := by decide +kernel
theorem dX8_asks_57 : decode cX8_asks 57 = .ok (.ifCond .eq 62, 3) := by decide +kernel
theorem dX8_asks_60 : decode cX8_asks 60 = .ok (.aload_n 0, 1) := by decide +kernel
theorem dX8_asks_61 : decode cX8_asks 61 = .ok (.aload_n 0, 1) := by decide +kernel
theorem dX8_asks_62 : decode cX8_asks 62 = .ok (.getfield 83, 3) := by decide +kernel
theorem dX8_asks_65 : decode cX8_asks 65 = .ok (.iload 4, 2) := by decide +kernel
theorem dX8_asks_67 : decode cX8_asks 67 = .ok (.iaload, 1) := by decide +kernel
theorem dX8_asks_68 : decode cX8_asks 68 = .ok (.aload_n 0, 1) := by decide +kernel
theorem dX8_asks_69 : decode cX8_asks 69 = .ok (.getfield 86, 3) := by decide +kernel
theorem dX8_asks_72 : decode cX8_asks 72 = .ok (.iload 4, 2) := by decide +kernel
theorem dX8_asks_74 : decode cX8_asks 74 = .ok (.iaload, 1) := by decide +kernel
theorem dX8_asks_75 : decode cX8_asks 75 = .ok (.invokevirtual 335, 3) := by decide +kernel
theorem dX8_asks_78 : decode cX8_asks 78 = .ok (.istore 5, 2) := by decide +kernel
theorem dX8_asks_80 : decode cX8_asks 80 = .ok (.aload_n 0, 1) := by decide +kernel
theorem dX8_asks_81 : decode cX8_asks 81 = .ok (.aload_n 0, 1) := by decide +kernel
theorem dX8_asks_82 : decode cX8_asks 82 = .ok (.getfield 86, 3) := by decide +kernel
theorem dX8_asks_85 : decode cX8_asks 85 = .ok (.iload 4, 2) := by decide +kernel
theorem dX8_asks_87 : decode cX8_asks 87 = .ok (.iaload, 1) := by decide +kernel
theorem dX8_asks_88 : decode cX8_asks 88 = .ok (.aload_n 0, 1) := by decide +kernel
theorem dX8_asks_89 : decode cX8_asks 89 = .ok (.getfield 89, 3) := by decide +kernel
theorem dX8_asks_92 : decode cX8_asks 92 = .ok (.iload 4, 2) := by decide +kernel
theorem dX8_asks_94 : decode cX8_asks 94 = .ok (.iaload, 1) := by decide +kernel
theorem dX8_asks_95 : decode cX8_asks 95 = .ok (.invokevirtual 335, 3) := by decide +kernel
theorem dX8_asks_98 : decode cX8_asks 98 = .ok (.istore 6, 2) := by decide +kernel
theorem dX8_asks_100 : decode cX8_asks 100 = .ok (.aload_n 0, 1) := by decide +kernel
theorem dX8_asks_101 : decode cX8_asks 101 = .ok (.getfield 299, 3) := by decide +kernel
theorem dX8_asks_104 : decode cX8_asks 104 = .ok (.ifCond .eq 5, 3) := by decide +kernel
theorem dX8_asks_107 : decode cX8_asks 107 = .ok (.iconst 0, 1) := by decide +kernel
theorem dX8_asks_108 : decode cX8_asks 108 = .ok (.ireturn, 1) := by decide +kernel
theorem dX8_asks_109 : decode cX8_asks 109 = .ok (.iload 5, 2) := by decide +kernel
theorem dX8_asks_111 : decode cX8_asks 111 = .ok (.iload 6, 2) := by decide +kernel
theorem dX8_asks_113 : decode cX8_asks 113 = .ok (.if_icmp .lt 6, 3) := by decide +kernel
theorem dX8_asks_116 : decode cX8_asks 116 = .ok (.goto 37, 3) := by decide +kernel
theorem dX8_asks_119 : decode cX8_asks 119 = .ok (.aload_n 0, 1) := by decide +kernel
theorem dX8_asks_120 : decode cX8_asks 120 = .ok (.aload_n 0, 1) := by decide +kernel
theorem dX8_asks_121 : decode cX8_asks 121 = .ok (.getfield 89, 3) := by decide +kernel
theorem dX8_asks_124 : decode cX8_asks 124 = .ok (.iload 4, 2) := by decide +kernel
theorem dX8_asks_126 : decode cX8_asks 126 = .ok (.iaload, 1) := by decide +kernel
theorem dX8_asks_127 : decode cX8_asks 127 = .ok (.aload_n 0, 1) := by decide +kernel
theorem dX8_asks_128 : decode cX8_asks 128 = .ok (.getfield 92, 3) := by decide +kernel
theorem dX8_asks_131 : decode cX8_asks 131 = .ok (.iload 4, 2) := by decide +kernel
theorem dX8_asks_133 : decode cX8_asks 133 = .ok (.iaload, 1) := by decide +kernel
theorem dX8_asks_134 : decode cX8_asks 134 = .ok (.invokevirtual 335, 3) := by decide +kernel
theorem dX8_asks_137 : decode cX8_asks 137 = .ok (.istore 5, 2) := by decide +kernel
theorem dX8_asks_139 : decode cX8_asks 139 = .ok (.aload_n 0, 1) := by decide +kernel
theorem dX8_asks_140 : decode cX8_asks 140 = .ok (.getfield 299, 3) := by decide +kernel
theorem dX8_asks_143 : decode cX8_asks 143 = .ok (.ifCond .eq 7, 3) := by decide +kernel
theorem dX8_asks_146 : decode cX8_asks 146 = .ok (.iconst 0, 1) := by decide +kernel
theorem dX8_asks_147 : decode cX8_asks 147 = .ok (.goto 5, 3) := by decide +kernel
theorem dX8_asks_150 : decode cX8_asks 150 = .ok (.iload 5, 2) := by decide +kernel
theorem dX8_asks_152 : decode cX8_asks 152 = .ok (.ireturn, 1) := by decide +kernel
theorem dX8_asks_153 : decode cX8_asks 153 = .ok (.iinc 4 1, 3) := by decide +kernel
theorem dX8_asks_156 : decode cX8_asks 156 = .ok (.goto (-117), 3) := by decide +kernel
theorem dX8_asks_159 : decode cX8_asks 159 = .ok (.iconst 0, 1) := by decide +kernel
theorem dX8_asks_160 : decode cX8_asks 160 = .ok (.ireturn, 1) := by decide +kernel
theorem dX8_windIn_0 : decode cX8_windIn 0 = .ok (.aload_n 0, 1) := by decide +kernel
theorem dX8_windIn_1 : decode cX8_windIn 1 = .ok (.iload_n 1, 1) := by decide +kernel
theorem dX8_windIn_2 : decode cX8_windIn 2 = .ok (.invokevirtual 338, 3) := by decide +kernel
theorem dX8_windIn_5 : decode cX8_windIn 5 = .ok (.aload_n 0, 1) := by decide +kernel
theorem dX8_windIn_6 : decode cX8_windIn 6 = .ok (.iconst 0, 1) := by decide +kernel
theorem dX8_windIn_7 : decode cX8_windIn 7 = .ok (.iconst 0, 1) := by decide +kernel
theorem dX8_windIn_8 : decode cX8_windIn 8 = .ok (.invokevirtual 341, 3) := by decide +kernel
theorem dX8_windIn_11 : decode cX8_windIn 11 = .ok (.istore_n 2, 1) := by decide +kernel
theorem dX8_windIn_12 : decode cX8_windIn 12 = .ok (.iload_n 2, 1) := by decide +kernel
theorem dX8_windIn_13 : decode cX8_windIn 13 = .ok (.ifCond .ge 7, 3) := by decide +kernel
theorem dX8_windIn_16 : decode cX8_windIn 16 = .ok (.iconst 1, 1) := by decide +kernel
theorem dX8_windIn_17 : decode cX8_windIn 17 = .ok (.goto 8, 3) := by decide +kernel
theorem dX8_windIn_20 : decode cX8_windIn 20 = .ok (.iload_n 2, 1) := by decide +kernel
theorem dX8_windIn_21 : decode cX8_windIn 21 = .ok (.iconst 4, 1) := by decide +kernel
theorem dX8_windIn_22 : decode cX8_windIn 22 = .ok (.irem, 1) := by decide +kernel
theorem dX8_windIn_23 : decode cX8_windIn 23 = .ok (.iconst 1, 1) := by decide +kernel
theorem dX8_windIn_24 : decode cX8_windIn 24 = .ok (.iadd, 1) := by decide +kernel
theorem dX8_windIn_25 : decode cX8_windIn 25 = .ok (.ireturn, 1) := by decide +kernel
theorem dX8_eastBy_0 : decode cX8_eastBy 0 = .ok (.iload_n 0, 1) := by decide +kernel
theorem dX8_eastBy_1 : decode cX8_eastBy 1 = .ok (.iconst 1, 1) := by decide +kernel
theorem dX8_eastBy_2 : decode cX8_eastBy 2 = .ok (.if_icmp .ne 7, 3) := by decide +kernel
theorem dX8_eastBy_5 : decode cX8_eastBy 5 = .ok (.iconst 1, 1) := by decide +kernel
theorem dX8_eastBy_6 : decode cX8_eastBy 6 = .ok (.goto 13, 3) := by decide +kernel
theorem dX8_eastBy_9 : decode cX8_eastBy 9 = .ok (.iload_n 0, 1) := by decide +kernel
theorem dX8_eastBy_10 : decode cX8_eastBy 10 = .ok (.iconst 3, 1) := by decide +kernel
theorem dX8_eastBy_11 : decode cX8_eastBy 11 = .ok (.if_icmp .ne 7, 3) := by decide +kernel
theorem dX8_eastBy_14 : decode cX8_eastBy 14 = .ok (.iconst (-1), 1) := by decide +kernel
theorem dX8_eastBy_15 : decode cX8_eastBy 15 = .ok (.goto 4, 3) := by decide +kernel
theorem dX8_eastBy_18 : decode cX8_eastBy 18 = .ok (.iconst 0, 1) := by decide +kernel
theorem dX8_eastBy_19 : decode cX8_eastBy 19 = .ok (.ireturn, 1) := by decide +kernel
theorem dX8_southBy_0 : decode cX8_southBy 0 = .ok (.iload_n 0, 1) := by decide +kernel
theorem dX8_southBy_1 : decode cX8_southBy 1 = .ok (.iconst 2, 1) := by decide +kernel
theorem dX8_southBy_2 : decode cX8_southBy 2 = .ok (.if_icmp .ne 7, 3) := by decide +kernel
theorem dX8_southBy_5 : decode cX8_southBy 5 = .ok (.iconst 1, 1) := by decide +kernel
theorem dX8_southBy_6 : decode cX8_southBy 6 = .ok (.goto 13, 3) := by decide +kernel
theorem dX8_southBy_9 : decode cX8_southBy 9 = .ok (.iload_n 0, 1) := by decide +kernel
theorem dX8_southBy_10 : decode cX8_southBy 10 = .ok (.iconst 4, 1) := by decide +kernel
theorem dX8_southBy_11 : decode cX8_southBy 11 = .ok (.if_icmp .ne 7, 3) := by decide +kernel
theorem dX8_southBy_14 : decode cX8_southBy 14 = .ok (.iconst (-1), 1) := by decide +kernel
theorem dX8_southBy_15 : decode cX8_southBy 15 = .ok (.goto 4, 3) := by decide +kernel
theorem dX8_southBy_18 : decode cX8_southBy 18 = .ok (.iconst 0, 1) := by decide +kernel
theorem dX8_southBy_19 : decode cX8_southBy 19 = .ok (.ireturn, 1) := by decide +kernel
theorem dX8_lays_0 : decode cX8_lays 0 = .ok (.aload_n 0, 1) := by decide +kernel
theorem dX8_lays_1 : decode cX8_lays 1 = .ok (.aload_n 0, 1) := by decide +kernel
theorem dX8_lays_2 : decode cX8_lays 2 = .ok (.getfield 113, 3) := by decide +kernel
theorem dX8_lays_5 : decode cX8_lays 5 = .ok (.bipush 30, 2) := by decide +kernel
theorem dX8_lays_7 : decode cX8_lays 7 = .ok (.iaload, 1) := by decide +kernel
theorem dX8_lays_8 : decode cX8_lays 8 = .ok (.invokevirtual 338, 3) := by decide +kernel
theorem dX8_lays_11 : decode cX8_lays 11 = .ok (.aload_n 0, 1) := by decide +kernel
theorem dX8_lays_12 : decode cX8_lays 12 = .ok (.getfield 104, 3) := by decide +kernel
theorem dX8_lays_15 : decode cX8_lays 15 = .ok (.iconst 1, 1) := by decide +kernel
theorem dX8_lays_16 : decode cX8_lays 16 = .ok (.iload_n 2, 1) := by decide +kernel
theorem dX8_lays_17 : decode cX8_lays 17 = .ok (.iastore, 1) := by decide +kernel
theorem dX8_lays_18 : decode cX8_lays 18 = .ok (.aload_n 0, 1) := by decide +kernel
theorem dX8_lays_19 : decode cX8_lays 19 = .ok (.getfield 104, 3) := by decide +kernel
theorem dX8_lays_22 : decode cX8_lays 22 = .ok (.iconst 2, 1) := by decide +kernel
theorem dX8_lays_23 : decode cX8_lays 23 = .ok (.iload_n 3, 1) := by decide +kernel
theorem dX8_lays_24 : decode cX8_lays 24 = .ok (.iastore, 1) := by decide +kernel
theorem dX8_lays_25 : decode cX8_lays 25 = .ok (.aload_n 0, 1) := by decide +kernel
theorem dX8_lays_26 : decode cX8_lays 26 = .ok (.getfield 104, 3) := by decide +kernel
theorem dX8_lays_29 : decode cX8_lays 29 = .ok (.bipush 6, 2) := by decide +kernel
theorem dX8_lays_31 : decode cX8_lays 31 = .ok (.iload_n 1, 1) := by decide +kernel
theorem dX8_lays_32 : decode cX8_lays 32 = .ok (.iastore, 1) := by decide +kernel
theorem dX8_lays_33 : decode cX8_lays 33 = .ok (.aload_n 0, 1) := by decide +kernel
theorem dX8_lays_34 : decode cX8_lays 34 = .ok (.getfield 104, 3) := by decide +kernel
theorem dX8_lays_37 : decode cX8_lays 37 = .ok (.bipush 7, 2) := by decide +kernel
theorem dX8_lays_39 : decode cX8_lays 39 = .ok (.aload_n 0, 1) := by decide +kernel
theorem dX8_lays_40 : decode cX8_lays 40 = .ok (.getfield 61, 3) := by decide +kernel
theorem dX8_lays_43 : decode cX8_lays 43 = .ok (.bipush 6, 2) := by decide +kernel
theorem dX8_lays_45 : decode cX8_lays 45 = .ok (.aload_n 0, 1) := by decide +kernel
theorem dX8_lays_46 : decode cX8_lays 46 = .ok (.getfield 230, 3) := by decide +kernel
theorem dX8_lays_49 : decode cX8_lays 49 = .ok (.imul, 1) := by decide +kernel
theorem dX8_lays_50 : decode cX8_lays 50 = .ok (.iload_n 1, 1) := by decide +kernel
theorem dX8_lays_51 : decode cX8_lays 51 = .ok (.iadd, 1) := by decide +kernel
theorem dX8_lays_52 : decode cX8_lays 52 = .ok (.iaload, 1) := by decide +kernel
theorem dX8_lays_53 : decode cX8_lays 53 = .ok (.iastore, 1) := by decide +kernel
theorem dX8_lays_54 : decode cX8_lays 54 = .ok (.aload_n 0, 1) := by decide +kernel
theorem dX8_lays_55 : decode cX8_lays 55 = .ok (.iconst 2, 1) := by decide +kernel
theorem dX8_lays_56 : decode cX8_lays 56 = .ok (.iconst 1, 1) := by decide +kernel
theorem dX8_lays_57 : decode cX8_lays 57 = .ok (.invokevirtual 341, 3) := by decide +kernel
theorem dX8_lays_60 : decode cX8_lays 60 = .ok (.istore 4, 2) := by decide +kernel
theorem dX8_lays_62 : decode cX8_lays 62 = .ok (.bipush 6, 2) := by decide +kernel
theorem dX8_lays_64 : decode cX8_lays 64 = .ok (.bipush 8, 2) := by decide +kernel
theorem dX8_lays_66 : decode cX8_lays 66 = .ok (.iload_n 3, 1) := by decide +kernel
theorem dX8_lays_67 : decode cX8_lays 67 = .ok (.imul, 1) := by decide +kernel
theorem dX8_lays_68 : decode cX8_lays 68 = .ok (.iload_n 2, 1) := by decide +kernel
theorem dX8_lays_69 : decode cX8_lays 69 = .ok (.iadd, 1) := by decide +kernel
theorem dX8_lays_70 : decode cX8_lays 70 = .ok (.imul, 1) := by decide +kernel
theorem dX8_lays_71 : decode cX8_lays 71 = .ok (.iload_n 1, 1) := by decide +kernel
theorem dX8_lays_72 : decode cX8_lays 72 = .ok (.iadd, 1) := by decide +kernel
theorem dX8_lays_73 : decode cX8_lays 73 = .ok (.istore 5, 2) := by decide +kernel
theorem dX8_lays_75 : decode cX8_lays 75 = .ok (.aload_n 0, 1) := by decide +kernel
theorem dX8_lays_76 : decode cX8_lays 76 = .ok (.getfield 113, 3) := by decide +kernel
theorem dX8_lays_79 : decode cX8_lays 79 = .ok (.bipush 32, 2) := by decide +kernel
theorem dX8_lays_81 : decode cX8_lays 81 = .ok (.iload 5, 2) := by decide +kernel
theorem dX8_lays_83 : decode cX8_lays 83 = .ok (.iadd, 1) := by decide +kernel
theorem dX8_lays_84 : decode cX8_lays 84 = .ok (.aload_n 0, 1) := by decide +kernel
theorem dX8_lays_85 : decode cX8_lays 85 = .ok (.getfield 113, 3) := by decide +kernel
theorem dX8_lays_88 : decode cX8_lays 88 = .ok (.bipush 30, 2) := by decide +kernel
theorem dX8_lays_90 : decode cX8_lays 90 = .ok (.iaload, 1) := by decide +kernel
theorem dX8_lays_91 : decode cX8_lays 91 = .ok (.iastore, 1) := by decide +kernel
theorem dX8_lays_92 : decode cX8_lays 92 = .ok (.aload_n 0, 1) := by decide +kernel
theorem dX8_lays_93 : decode cX8_lays 93 = .ok (.getfield 113, 3) := by decide +kernel
theorem dX8_lays_96 : decode cX8_lays 96 = .ok (.sipush 272, 3) := by decide +kernel
theorem dX8_lays_99 : decode cX8_lays 99 = .ok (.iload 5, 2) := by decide +kernel
theorem dX8_lays_101 : decode cX8_lays 101 = .ok (.iadd, 1) := by decide +kernel
theorem dX8_lays_102 : decode cX8_lays 102 = .ok (.aload_n 0, 1) := by decide +kernel
theorem dX8_lays_103 : decode cX8_lays 103 = .ok (.getfield 113, 3) := by decide +kernel
theorem dX8_lays_106 : decode cX8_lays 106 = .ok (.bipush 30, 2) := by decide +kernel
theorem dX8_lays_108 : decode cX8_lays 108 = .ok (.iaload, 1) := by decide +kernel
theorem dX8_lays_109 : decode cX8_lays 109 = .ok (.iload 4, 2) := by decide +kernel
theorem dX8_lays_111 : decode cX8_lays 111 = .ok (.ifCond .ge 7, 3) := by decide +kernel
theorem dX8_lays_114 : decode cX8_lays 114 = .ok (.iconst 0, 1) := by decide +kernel
theorem dX8_lays_115 : decode cX8_lays 115 = .ok (.goto 17, 3) := by decide +kernel
theorem dX8_lays_118 : decode cX8_lays 118 = .ok (.iload 4, 2) := by decide +kernel
theorem dX8_lays_120 : decode cX8_lays 120 = .ok (.bipush 9, 2) := by decide +kernel
theorem dX8_lays_122 : decode cX8_lays 122 = .ok (.if_icmp .le 8, 3) := by decide +kernel
theorem dX8_lays_125 : decode cX8_lays 125 = .ok (.bipush 9, 2) := by decide +kernel
theorem dX8_lays_127 : decode cX8_lays 127 = .ok (.goto 5, 3) := by decide +kernel
theorem dX8_lays_130 : decode cX8_lays 130 = .ok (.iload 4, 2) := by decide +kernel
theorem dX8_lays_132 : decode cX8_lays 132 = .ok (.iadd, 1) := by decide +kernel
theorem dX8_lays_133 : decode cX8_lays 133 = .ok (.iastore, 1) := by decide +kernel
theorem dX8_lays_134 : decode cX8_lays 134 = .ok (.return_, 1) := by decide +kernel
theorem dX8_laysAll_0 : decode cX8_laysAll 0 = .ok (.aload_n 0, 1) := by decide +kernel
theorem dX8_laysAll_1 : decode cX8_laysAll 1 = .ok (.aload_n 0, 1) := by decide +kernel
theorem dX8_laysAll_2 : decode cX8_laysAll 2 = .ok (.getfield 113, 3) := by decide +kernel
theorem dX8_laysAll_5 : decode cX8_laysAll 5 = .ok (.bipush 30, 2) := by decide +kernel
theorem dX8_laysAll_7 : decode cX8_laysAll 7 = .ok (.iaload, 1) := by decide +kernel
theorem dX8_laysAll_8 : decode cX8_laysAll 8 = .ok (.invokevirtual 344, 3) := by decide +kernel
theorem dX8_laysAll_11 : decode cX8_laysAll 11 = .ok (.istore_n 1, 1) := by decide +kernel
theorem dX8_laysAll_12 : decode cX8_laysAll 12 = .ok (.iconst 0, 1) := by decide +kernel
theorem dX8_laysAll_13 : decode cX8_laysAll 13 = .ok (.istore_n 2, 1) := by decide +kernel
theorem dX8_laysAll_14 : decode cX8_laysAll 14 = .ok (.iload_n 2, 1) := by decide +kernel
theorem dX8_laysAll_15 : decode cX8_laysAll 15 = .ok (.aload_n 0, 1) := by decide +kernel
theorem dX8_laysAll_16 : decode cX8_laysAll 16 = .ok (.getfield 52, 3) := by decide +kernel
theorem dX8_laysAll_19 : decode cX8_laysAll 19 = .ok (.aload_n 0, 1) := by decide +kernel
theorem dX8_laysAll_20 : decode cX8_laysAll 20 = .ok (.getfield 230, 3) := by decide +kernel
theorem dX8_laysAll_23 : decode cX8_laysAll 23 = .ok (.iaload, 1) := by decide +kernel
theorem dX8_laysAll_24 : decode cX8_laysAll 24 = .ok (.if_icmp .ge 134, 3) := by decide +kernel
theorem dX8_laysAll_27 : decode cX8_laysAll 27 = .ok (.aload_n 0, 1) := by decide +kernel
theorem dX8_laysAll_28 : decode cX8_laysAll 28 = .ok (.iload_n 2, 1) := by decide +kernel
theorem dX8_laysAll_29 : decode cX8_laysAll 29 = .ok (.invokevirtual 347, 3) := by decide +kernel
theorem dX8_laysAll_32 : decode cX8_laysAll 32 = .ok (.ifCond .eq 120, 3) := by decide +kernel
theorem dX8_laysAll_35 : decode cX8_laysAll 35 = .ok (.aload_n 0, 1) := by decide +kernel
theorem dX8_laysAll_36 : decode cX8_laysAll 36 = .ok (.getfield 113, 3) := by decide +kernel
theorem dX8_laysAll_39 : decode cX8_laysAll 39 = .ok (.bipush 24, 2) := by decide +kernel
theorem dX8_laysAll_41 : decode cX8_laysAll 41 = .ok (.iload_n 2, 1) := by decide +kernel
theorem dX8_laysAll_42 : decode cX8_laysAll 42 = .ok (.iadd, 1) := by decide +kernel
theorem dX8_laysAll_43 : decode cX8_laysAll 43 = .ok (.iaload, 1) := by decide +kernel
theorem dX8_laysAll_44 : decode cX8_laysAll 44 = .ok (.ifCond .ne 6, 3) := by decide +kernel
theorem dX8_laysAll_47 : decode cX8_laysAll 47 = .ok (.goto 105, 3) := by decide +kernel
theorem dX8_laysAll_50 : decode cX8_laysAll 50 = .ok (.aload_n 0, 1) := by decide +kernel
theorem dX8_laysAll_51 : decode cX8_laysAll 51 = .ok (.getfield 113, 3) := by decide +kernel
theorem dX8_laysAll_54 : decode cX8_laysAll 54 = .ok (.iload_n 2, 1) := by decide +kernel
theorem dX8_laysAll_55 : decode cX8_laysAll 55 = .ok (.iaload, 1) := by decide +kernel
theorem dX8_laysAll_56 : decode cX8_laysAll 56 = .ok (.istore_n 3, 1) := by decide +kernel
theorem dX8_laysAll_57 : decode cX8_laysAll 57 = .ok (.aload_n 0, 1) := by decide +kernel
theorem dX8_laysAll_58 : decode cX8_laysAll 58 = .ok (.getfield 113, 3) := by decide +kernel
theorem dX8_laysAll_61 : decode cX8_laysAll 61 = .ok (.bipush 6, 2) := by decide +kernel
theorem dX8_laysAll_63 : decode cX8_laysAll 63 = .ok (.iload_n 2, 1) := by decide +kernel
theorem dX8_laysAll_64 : decode cX8_laysAll 64 = .ok (.iadd, 1) := by decide +kernel
theorem dX8_laysAll_65 : decode cX8_laysAll 65 = .ok (.iaload, 1) := by decide +kernel
theorem dX8_laysAll_66 : decode cX8_laysAll 66 = .ok (.istore 4, 2) := by decide +kernel
theorem dX8_laysAll_68 : decode cX8_laysAll 68 = .ok (.aload_n 0, 1) := by decide +kernel
theorem dX8_laysAll_69 : decode cX8_laysAll 69 = .ok (.iload_n 2, 1) := by decide +kernel
theorem dX8_laysAll_70 : decode cX8_laysAll 70 = .ok (.iload_n 3, 1) := by decide +kernel
theorem dX8_laysAll_71 : decode cX8_laysAll 71 = .ok (.iload 4, 2) := by decide +kernel
theorem dX8_laysAll_73 : decode cX8_laysAll 73 = .ok (.invokevirtual 350, 3) := by decide +kernel
theorem dX8_laysAll_76 : decode cX8_laysAll 76 = .ok (.iconst 0, 1) := by decide +kernel
theorem dX8_laysAll_77 : decode cX8_laysAll 77 = .ok (.istore 5, 2) := by decide +kernel
theorem dX8_laysAll_79 : decode cX8_laysAll 79 = .ok (.iload 5, 2) := by decide +kernel
theorem dX8_laysAll_81 : decode cX8_laysAll 81 = .ok (.aload_n 0, 1) := by decide +kernel
theorem dX8_laysAll_82 : decode cX8_laysAll 82 = .ok (.getfield 61, 3) := by decide +kernel
theorem dX8_laysAll_85 : decode cX8_laysAll 85 = .ok (.bipush 6, 2) := by decide +kernel
theorem dX8_laysAll_87 : decode cX8_laysAll 87 = .ok (.aload_n 0, 1) := by decide +kernel
theorem dX8_laysAll_88 : decode cX8_laysAll 88 = .ok (.getfield 230, 3) := by decide +kernel
theorem dX8_laysAll_91 : decode cX8_laysAll 91 = .ok (.imul, 1) := by decide +kernel
theorem dX8_laysAll_92 : decode cX8_laysAll 92 = .ok (.iload_n 2, 1) := by decide +kernel
theorem dX8_laysAll_93 : decode cX8_laysAll 93 = .ok (.iadd, 1) := by decide +kernel
theorem dX8_laysAll_94 : decode cX8_laysAll 94 = .ok (.iaload, 1) := by decide +kernel
theorem dX8_laysAll_95 : decode cX8_laysAll 95 = .ok (.if_icmp .ge 57, 3) := by decide +kernel
theorem dX8_laysAll_98 : decode cX8_laysAll 98 = .ok (.iload_n 3, 1) := by decide +kernel
theorem dX8_laysAll_99 : decode cX8_laysAll 99 = .ok (.iload_n 1, 1) := by decide +kernel
theorem dX8_laysAll_100 : decode cX8_laysAll 100 = .ok (.invokestatic 354, 3) := by decide +kernel
theorem dX8_laysAll_103 : decode cX8_laysAll 103 = .ok (.iadd, 1) := by decide +kernel
theorem dX8_laysAll_104 : decode cX8_laysAll 104 = .ok (.istore_n 3, 1) := by decide +kernel
theorem dX8_laysAll_105 : decode cX8_laysAll 105 = .ok (.iload 4, 2) := by decide +kernel
theorem dX8_laysAll_107 : decode cX8_laysAll 107 = .ok (.iload_n 1, 1) := by decide +kernel
theorem dX8_laysAll_108 : decode cX8_laysAll 108 = .ok (.invokestatic 357, 3) := by decide +kernel
theorem dX8_laysAll_111 : decode cX8_laysAll 111 = .ok (.iadd, 1) := by decide +kernel
theorem dX8_laysAll_112 : decode cX8_laysAll 112 = .ok (.istore 4, 2) := by decide +kernel
theorem dX8_laysAll_114 : decode cX8_laysAll 114 = .ok (.aload_n 0, 1) := by decide +kernel
theorem dX8_laysAll_115 : decode cX8_laysAll 115 = .ok (.iload_n 3, 1) := by decide +kernel
theorem dX8_laysAll_116 : decode cX8_laysAll 116 = .ok (.iload 4, 2) := by decide +kernel
theorem dX8_laysAll_118 : decode cX8_laysAll 118 = .ok (.invokevirtual 360, 3) := by decide +kernel
theorem dX8_laysAll_121 : decode cX8_laysAll 121 = .ok (.ifCond .eq 31, 3) := by decide +kernel
theorem dX8_laysAll_124 : decode cX8_laysAll 124 = .ok (.aload_n 0, 1) := by decide +kernel
theorem dX8_laysAll_125 : decode cX8_laysAll 125 = .ok (.iload_n 3, 1) := by decide +kernel
theorem dX8_laysAll_126 : decode cX8_laysAll 126 = .ok (.iload 4, 2) := by decide +kernel
theorem dX8_laysAll_128 : decode cX8_laysAll 128 = .ok (.invokevirtual 319, 3) := by decide +kernel
theorem dX8_laysAll_131 : decode cX8_laysAll 131 = .ok (.iconst 1, 1) := by decide +kernel
theorem dX8_laysAll_132 : decode cX8_laysAll 132 = .ok (.if_icmp .ne 6, 3) := by decide +kernel
theorem dX8_laysAll_135 : decode cX8_laysAll 135 = .ok (.goto 17, 3) := by decide +kernel
theorem dX8_laysAll_138 : decode cX8_laysAll 138 = .ok (.aload_n 0, 1) := by decide +kernel
theorem dX8_laysAll_139 : decode cX8_laysAll 139 = .ok (.iload_n 2, 1) := by decide +kernel
theorem dX8_laysAll_140 : decode cX8_laysAll 140 = .ok (.iload_n 3, 1) := by decide +kernel
theorem dX8_laysAll_141 : decode cX8_laysAll 141 = .ok (.iload 4, 2) := by decide +kernel
theorem dX8_laysAll_143 : decode cX8_laysAll 143 = .ok (.invokevirtual 350, 3) := by decide +kernel
theorem dX8_laysAll_146 : decode cX8_laysAll 146 = .ok (.iinc 5 1, 3) := by decide +kernel
theorem dX8_laysAll_149 : decode cX8_laysAll 149 = .ok (.goto (-70), 3) := by decide +kernel
theorem dX8_laysAll_152 : decode cX8_laysAll 152 = .ok (.iinc 2 1, 3) := by decide +kernel
theorem dX8_laysAll_155 : decode cX8_laysAll 155 = .ok (.goto (-141), 3) := by decide +kernel
theorem dX8_laysAll_158 : decode cX8_laysAll 158 = .ok (.return_, 1) := by decide +kernel
theorem dX8_isSmelt_0 : decode cX8_isSmelt 0 = .ok (.bipush 6, 2) := by decide +kernel
theorem dX8_isSmelt_2 : decode cX8_isSmelt 2 = .ok (.bipush 8, 2) := by decide +kernel
theorem dX8_isSmelt_4 : decode cX8_isSmelt 4 = .ok (.iload_n 2, 1) := by decide +kernel
theorem dX8_isSmelt_5 : decode cX8_isSmelt 5 = .ok (.imul, 1) := by decide +kernel
theorem dX8_isSmelt_6 : decode cX8_isSmelt 6 = .ok (.iload_n 1, 1) := by decide +kernel
theorem dX8_isSmelt_7 : decode cX8_isSmelt 7 = .ok (.iadd, 1) := by decide +kernel
theorem dX8_isSmelt_8 : decode cX8_isSmelt 8 = .ok (.imul, 1) := by decide +kernel
theorem dX8_isSmelt_9 : decode cX8_isSmelt 9 = .ok (.iload_n 3, 1) := by decide +kernel
theorem dX8_isSmelt_10 : decode cX8_isSmelt 10 = .ok (.iadd, 1) := by decide +kernel
theorem dX8_isSmelt_11 : decode cX8_isSmelt 11 = .ok (.istore 4, 2) := by decide +kernel
theorem dX8_isSmelt_13 : decode cX8_isSmelt 13 = .ok (.aload_n 0, 1) := by decide +kernel
theorem dX8_isSmelt_14 : decode cX8_isSmelt 14 = .ok (.getfield 113, 3) := by decide +kernel
theorem dX8_isSmelt_17 : decode cX8_isSmelt 17 = .ok (.bipush 32, 2) := by decide +kernel
theorem dX8_isSmelt_19 : decode cX8_isSmelt 19 = .ok (.iload 4, 2) := by decide +kernel
theorem dX8_isSmelt_21 : decode cX8_isSmelt 21 = .ok (.iadd, 1) := by decide +kernel
theorem dX8_isSmelt_22 : decode cX8_isSmelt 22 = .ok (.iaload, 1) := by decide +kernel
theorem dX8_isSmelt_23 : decode cX8_isSmelt 23 = .ok (.ifCond .lt 28, 3) := by decide +kernel
theorem dX8_isSmelt_26 : decode cX8_isSmelt 26 = .ok (.aload_n 0, 1) := by decide +kernel
theorem dX8_isSmelt_27 : decode cX8_isSmelt 27 = .ok (.getfield 113, 3) := by decide +kernel
theorem dX8_isSmelt_30 : decode cX8_isSmelt 30 = .ok (.sipush 272, 3) := by decide +kernel
theorem dX8_isSmelt_33 : decode cX8_isSmelt 33 = .ok (.iload 4, 2) := by decide +kernel
theorem dX8_isSmelt_35 : decode cX8_isSmelt 35 = .ok (.iadd, 1) := by decide +kernel
theorem dX8_isSmelt_36 : decode cX8_isSmelt 36 = .ok (.iaload, 1) := by decide +kernel
theorem dX8_isSmelt_37 : decode cX8_isSmelt 37 = .ok (.aload_n 0, 1) := by decide +kernel
theorem dX8_isSmelt_38 : decode cX8_isSmelt 38 = .ok (.getfield 113, 3) := by decide +kernel
theorem dX8_isSmelt_41 : decode cX8_isSmelt 41 = .ok (.bipush 30, 2) := by decide +kernel
theorem dX8_isSmelt_43 : decode cX8_isSmelt 43 = .ok (.iaload, 1) := by decide +kernel
theorem dX8_isSmelt_44 : decode cX8_isSmelt 44 = .ok (.if_icmp .lt 7, 3) := by decide +kernel
theorem dX8_isSmelt_47 : decode cX8_isSmelt 47 = .ok (.iconst 1, 1) := by decide +kernel
theorem dX8_isSmelt_48 : decode cX8_isSmelt 48 = .ok (.goto 4, 3) := by decide +kernel
theorem dX8_isSmelt_51 : decode cX8_isSmelt 51 = .ok (.iconst 0, 1) := by decide +kernel
theorem dX8_isSmelt_52 : decode cX8_isSmelt 52 = .ok (.ireturn, 1) := by decide +kernel
theorem dX8_smellsOf_0 : decode cX8_smellsOf 0 = .ok (.aload_n 0, 1) := by decide +kernel
theorem dX8_smellsOf_1 : decode cX8_smellsOf 1 = .ok (.iload_n 1, 1) := by decide +kernel
theorem dX8_smellsOf_2 : decode cX8_smellsOf 2 = .ok (.invokevirtual 347, 3) := by decide +kernel
theorem dX8_smellsOf_5 : decode cX8_smellsOf 5 = .ok (.ifCond .eq 11, 3) := by decide +kernel
theorem dX8_smellsOf_8 : decode cX8_smellsOf 8 = .ok (.aload_n 0, 1) := by decide +kernel
theorem dX8_smellsOf_9 : decode cX8_smellsOf 9 = .ok (.iload_n 1, 1) := by decide +kernel
theorem dX8_smellsOf_10 : decode cX8_smellsOf 10 = .ok (.invokevirtual 364, 3) := by decide +kernel
theorem dX8_smellsOf_13 : decode cX8_smellsOf 13 = .ok (.ifCond .eq 5, 3) := by decide +kernel
theorem dX8_smellsOf_16 : decode cX8_smellsOf 16 = .ok (.iconst 0, 1) := by decide +kernel
theorem dX8_smellsOf_17 : decode cX8_smellsOf 17 = .ok (.ireturn, 1) := by decide +kernel
theorem dX8_smellsOf_18 : decode cX8_smellsOf 18 = .ok (.iconst 0, 1) := by decide +kernel
theorem dX8_smellsOf_19 : decode cX8_smellsOf 19 = .ok (.istore_n 2, 1) := by decide +kernel
theorem dX8_smellsOf_20 : decode cX8_smellsOf 20 = .ok (.iconst 0, 1) := by decide +kernel
theorem dX8_smellsOf_21 : decode cX8_smellsOf 21 = .ok (.istore_n 3, 1) := by decide +kernel
theorem dX8_smellsOf_22 : decode cX8_smellsOf 22 = .ok (.iload_n 3, 1) := by decide +kernel
theorem dX8_smellsOf_23 : decode cX8_smellsOf 23 = .ok (.aload_n 0, 1) := by decide +kernel
theorem dX8_smellsOf_24 : decode cX8_smellsOf 24 = .ok (.getfield 52, 3) := by decide +kernel
theorem dX8_smellsOf_27 : decode cX8_smellsOf 27 = .ok (.aload_n 0, 1) := by decide +kernel
theorem dX8_smellsOf_28 : decode cX8_smellsOf 28 = .ok (.getfield 230, 3) := by decide +kernel
theorem dX8_smellsOf_31 : decode cX8_smellsOf 31 = .ok (.iaload, 1) := by decide +kernel
theorem dX8_smellsOf_32 : decode cX8_smellsOf 32 = .ok (.if_icmp .ge 100, 3) := by decide +kernel
theorem dX8_smellsOf_35 : decode cX8_smellsOf 35 = .ok (.iload_n 3, 1) := by decide +kernel
theorem dX8_smellsOf_36 : decode cX8_smellsOf 36 = .ok (.iload_n 1, 1) := by decide +kernel
theorem dX8_smellsOf_37 : decode cX8_smellsOf 37 = .ok (.if_icmp .eq 89, 3) := by decide +kernel
theorem dX8_smellsOf_40 : decode cX8_smellsOf 40 = .ok (.aload_n 0, 1) := by decide +kernel
theorem dX8_smellsOf_41 : decode cX8_smellsOf 41 = .ok (.aload_n 0, 1) := by decide +kernel
theorem dX8_smellsOf_42 : decode cX8_smellsOf 42 = .ok (.getfield 113, 3) := by decide +kernel
theorem dX8_smellsOf_45 : decode cX8_smellsOf 45 = .ok (.iload_n 1, 1) := by decide +kernel
theorem dX8_smellsOf_46 : decode cX8_smellsOf 46 = .ok (.iaload, 1) := by decide +kernel
theorem dX8_smellsOf_47 : decode cX8_smellsOf 47 = .ok (.aload_n 0, 1) := by decide +kernel
theorem dX8_smellsOf_48 : decode cX8_smellsOf 48 = .ok (.getfield 113, 3) := by decide +kernel
theorem dX8_smellsOf_51 : decode cX8_smellsOf 51 = .ok (.bipush 6, 2) := by decide +kernel
theorem dX8_smellsOf_53 : decode cX8_smellsOf 53 = .ok (.iload_n 1, 1) := by decide +kernel
theorem dX8_smellsOf_54 : decode cX8_smellsOf 54 = .ok (.iadd, 1) := by decide +kernel
theorem dX8_smellsOf_55 : decode cX8_smellsOf 55 = .ok (.iaload, 1) := by decide +kernel
theorem dX8_smellsOf_56 : decode cX8_smellsOf 56 = .ok (.iload_n 3, 1) := by decide +kernel
theorem dX8_smellsOf_57 : decode cX8_smellsOf 57 = .ok (.invokevirtual 367, 3) := by decide +kernel
theorem dX8_smellsOf_60 : decode cX8_smellsOf 60 = .ok (.ifCond .eq 66, 3) := by decide +kernel
theorem dX8_smellsOf_63 : decode cX8_smellsOf 63 = .ok (.aload_n 0, 1) := by decide +kernel
theorem dX8_smellsOf_64 : decode cX8_smellsOf 64 = .ok (.getfield 113, 3) := by decide +kernel
theorem dX8_smellsOf_67 : decode cX8_smellsOf 67 = .ok (.bipush 30, 2) := by decide +kernel
theorem dX8_smellsOf_69 : decode cX8_smellsOf 69 = .ok (.iaload, 1) := by decide +kernel
theorem dX8_smellsOf_70 : decode cX8_smellsOf 70 = .ok (.aload_n 0, 1) := by decide +kernel
theorem dX8_smellsOf_71 : decode cX8_smellsOf 71 = .ok (.getfield 113, 3) := by decide +kernel
theorem dX8_smellsOf_74 : decode cX8_smellsOf 74 = .ok (.bipush 32, 2) := by decide +kernel
theorem dX8_smellsOf_76 : decode cX8_smellsOf 76 = .ok (.bipush 6, 2) := by decide +kernel
theorem dX8_smellsOf_78 : decode cX8_smellsOf 78 = .ok (.bipush 8, 2) := by decide +kernel
theorem dX8_smellsOf_80 : decode cX8_smellsOf 80 = .ok (.aload_n 0, 1) := by decide +kernel
theorem dX8_smellsOf_81 : decode cX8_smellsOf 81 = .ok (.getfield 113, 3) := by decide +kernel
theorem dX8_smellsOf_84 : decode cX8_smellsOf 84 = .ok (.bipush 6, 2) := by decide +kernel
theorem dX8_smellsOf_86 : decode cX8_smellsOf 86 = .ok (.iload_n 1, 1) := by decide +kernel
theorem dX8_smellsOf_87 : decode cX8_smellsOf 87 = .ok (.iadd, 1) := by decide +kernel
theorem dX8_smellsOf_88 : decode cX8_smellsOf 88 = .ok (.iaload, 1) := by decide +kernel
theorem dX8_smellsOf_89 : decode cX8_smellsOf 89 = .ok (.imul, 1) := by decide +kernel
theorem dX8_smellsOf_90 : decode cX8_smellsOf 90 = .ok (.aload_n 0, 1) := by decide +kernel
theorem dX8_smellsOf_91 : decode cX8_smellsOf 91 = .ok (.getfield 113, 3) := by decide +kernel
theorem dX8_smellsOf_94 : decode cX8_smellsOf 94 = .ok (.iload_n 1, 1) := by decide +kernel
theorem dX8_smellsOf_95 : decode cX8_smellsOf 95 = .ok (.iaload, 1) := by decide +kernel
theorem dX8_smellsOf_96 : decode cX8_smellsOf 96 = .ok (.iadd, 1) := by decide +kernel
theorem dX8_smellsOf_97 : decode cX8_smellsOf 97 = .ok (.imul, 1) := by decide +kernel
theorem dX8_smellsOf_98 : decode cX8_smellsOf 98 = .ok (.iadd, 1) := by decide +kernel
theorem dX8_smellsOf_99 : decode cX8_smellsOf 99 = .ok (.iload_n 3, 1) := by decide +kernel
theorem dX8_smellsOf_100 : decode cX8_smellsOf 100 = .ok (.iadd, 1) := by decide +kernel
theorem dX8_smellsOf_101 : decode cX8_smellsOf 101 = .ok (.iaload, 1) := by decide +kernel
theorem dX8_smellsOf_102 : decode cX8_smellsOf 102 = .ok (.isub, 1) := by decide +kernel
theorem dX8_smellsOf_103 : decode cX8_smellsOf 103 = .ok (.aload_n 0, 1) := by decide +kernel
theorem dX8_smellsOf_104 : decode cX8_smellsOf 104 = .ok (.getfield 64, 3) := by decide +kernel
theorem dX8_smellsOf_107 : decode cX8_smellsOf 107 = .ok (.bipush 6, 2) := by decide +kernel
theorem dX8_smellsOf_109 : decode cX8_smellsOf 109 = .ok (.aload_n 0, 1) := by decide +kernel
theorem dX8_smellsOf_110 : decode cX8_smellsOf 110 = .ok (.getfield 230, 3) := by decide +kernel
theorem dX8_smellsOf_113 : decode cX8_smellsOf 113 = .ok (.imul, 1) := by decide +kernel
theorem dX8_smellsOf_114 : decode cX8_smellsOf 114 = .ok (.iload_n 1, 1) := by decide +kernel
theorem dX8_smellsOf_115 : decode cX8_smellsOf 115 = .ok (.iadd, 1) := by decide +kernel
theorem dX8_smellsOf_116 : decode cX8_smellsOf 116 = .ok (.iaload, 1) := by decide +kernel
theorem dX8_smellsOf_117 : decode cX8_smellsOf 117 = .ok (.if_icmp .gt 9, 3) := by decide +kernel
theorem dX8_smellsOf_120 : decode cX8_smellsOf 120 = .ok (.iload_n 2, 1) := by decide +kernel
theorem dX8_smellsOf_121 : decode cX8_smellsOf 121 = .ok (.iconst 1, 1) := by decide +kernel
theorem dX8_smellsOf_122 : decode cX8_smellsOf 122 = .ok (.iload_n 3, 1) := by decide +kernel
theorem dX8_smellsOf_123 : decode cX8_smellsOf 123 = .ok (.ishl, 1) := by decide +kernel
theorem dX8_smellsOf_124 : decode cX8_smellsOf 124 = .ok (.ior, 1) := by decide +kernel
theorem dX8_smellsOf_125 : decode cX8_smellsOf 125 = .ok (.istore_n 2, 1) := by decide +kernel
theorem dX8_smellsOf_126 : decode cX8_smellsOf 126 = .ok (.iinc 3 1, 3) := by decide +kernel
theorem dX8_smellsOf_129 : decode cX8_smellsOf 129 = .ok (.goto (-107), 3) := by decide +kernel
theorem dX8_smellsOf_132 : decode cX8_smellsOf 132 = .ok (.iload_n 2, 1) := by decide +kernel
theorem dX8_smellsOf_133 : decode cX8_smellsOf 133 = .ok (.ireturn, 1) := by decide +kernel
theorem dX8_wayOf_0 : decode cX8_wayOf 0 = .ok (.aload_n 0, 1) := by decide +kernel
theorem dX8_wayOf_1 : decode cX8_wayOf 1 = .ok (.iload_n 1, 1) := by decide +kernel
theorem dX8_wayOf_2 : decode cX8_wayOf 2 = .ok (.invokevirtual 370, 3) := by decide +kernel
theorem dX8_wayOf_5 : decode cX8_wayOf 5 = .ok (.istore_n 2, 1) := by decide +kernel
theorem dX8_wayOf_6 : decode cX8_wayOf 6 = .ok (.iconst (-1), 1) := by decide +kernel
theorem dX8_wayOf_7 : decode cX8_wayOf 7 = .ok (.istore_n 3, 1) := by decide +kernel
theorem dX8_wayOf_8 : decode cX8_wayOf 8 = .ok (.iconst 5, 1) := by decide +kernel
theorem dX8_wayOf_9 : decode cX8_wayOf 9 = .ok (.istore 4, 2) := by decide +kernel
theorem dX8_wayOf_11 : decode cX8_wayOf 11 = .ok (.iload 4, 2) := by decide +kernel
theorem dX8_wayOf_13 : decode cX8_wayOf 13 = .ok (.ifCond .lt 22, 3) := by decide +kernel
theorem dX8_wayOf_16 : decode cX8_wayOf 16 = .ok (.iload_n 2, 1) := by decide +kernel
theorem dX8_wayOf_17 : decode cX8_wayOf 17 = .ok (.iload 4, 2) := by decide +kernel
theorem dX8_wayOf_19 : decode cX8_wayOf 19 = .ok (.ishr, 1) := by decide +kernel
theorem dX8_wayOf_20 : decode cX8_wayOf 20 = .ok (.iconst 1, 1) := by decide +kernel
theorem dX8_wayOf_21 : decode cX8_wayOf 21 = .ok (.iand, 1) := by decide +kernel
theorem dX8_wayOf_22 : decode cX8_wayOf 22 = .ok (.iconst 1, 1) := by decide +kernel
theorem dX8_wayOf_23 : decode cX8_wayOf 23 = .ok (.if_icmp .ne 6, 3) := by decide +kernel
theorem dX8_wayOf_26 : decode cX8_wayOf 26 = .ok (.iload 4, 2) := by decide +kernel
theorem dX8_wayOf_28 : decode cX8_wayOf 28 = .ok (.istore_n 3, 1) := by decide +kernel
theorem dX8_wayOf_29 : decode cX8_wayOf 29 = .ok (.iinc 4 (-1), 3) := by decide +kernel
theorem dX8_wayOf_32 : decode cX8_wayOf 32 = .ok (.goto (-21), 3) := by decide +kernel
theorem dX8_wayOf_35 : decode cX8_wayOf 35 = .ok (.aload_n 0, 1) := by decide +kernel
theorem dX8_wayOf_36 : decode cX8_wayOf 36 = .ok (.aload_n 0, 1) := by decide +kernel
theorem dX8_wayOf_37 : decode cX8_wayOf 37 = .ok (.getfield 113, 3) := by decide +kernel
theorem dX8_wayOf_40 : decode cX8_wayOf 40 = .ok (.bipush 30, 2) := by decide +kernel
theorem dX8_wayOf_42 : decode cX8_wayOf 42 = .ok (.iaload, 1) := by decide +kernel
theorem dX8_wayOf_43 : decode cX8_wayOf 43 = .ok (.invokevirtual 344, 3) := by decide +kernel
theorem dX8_wayOf_46 : decode cX8_wayOf 46 = .ok (.istore 4, 2) := by decide +kernel
theorem dX8_wayOf_48 : decode cX8_wayOf 48 = .ok (.aload_n 0, 1) := by decide +kernel
theorem dX8_wayOf_49 : decode cX8_wayOf 49 = .ok (.aload_n 0, 1) := by decide +kernel
theorem dX8_wayOf_50 : decode cX8_wayOf 50 = .ok (.getfield 113, 3) := by decide +kernel
theorem dX8_wayOf_53 : decode cX8_wayOf 53 = .ok (.bipush 30, 2) := by decide +kernel
theorem dX8_wayOf_55 : decode cX8_wayOf 55 = .ok (.iaload, 1) := by decide +kernel
theorem dX8_wayOf_56 : decode cX8_wayOf 56 = .ok (.invokevirtual 338, 3) := by decide +kernel
theorem dX8_wayOf_59 : decode cX8_wayOf 59 = .ok (.aload_n 0, 1) := by decide +kernel
theorem dX8_wayOf_60 : decode cX8_wayOf 60 = .ok (.getfield 104, 3) := by decide +kernel
theorem dX8_wayOf_63 : decode cX8_wayOf 63 = .ok (.iconst 1, 1) := by decide +kernel
theorem dX8_wayOf_64 : decode cX8_wayOf 64 = .ok (.aload_n 0, 1) := by decide +kernel
theorem dX8_wayOf_65 : decode cX8_wayOf 65 = .ok (.getfield 113, 3) := by decide +kernel
theorem dX8_wayOf_68 : decode cX8_wayOf 68 = .ok (.iload_n 1, 1) := by decide +kernel
theorem dX8_wayOf_69 : decode cX8_wayOf 69 = .ok (.iaload, 1) := by decide +kernel
theorem dX8_wayOf_70 : decode cX8_wayOf 70 = .ok (.iastore, 1) := by decide +kernel
theorem dX8_wayOf_71 : decode cX8_wayOf 71 = .ok (.aload_n 0, 1) := by decide +kernel
theorem dX8_wayOf_72 : decode cX8_wayOf 72 = .ok (.getfield 104, 3) := by decide +kernel
theorem dX8_wayOf_75 : decode cX8_wayOf 75 = .ok (.iconst 2, 1) := by decide +kernel
theorem dX8_wayOf_76 : decode cX8_wayOf 76 = .ok (.aload_n 0, 1) := by decide +kernel
theorem dX8_wayOf_77 : decode cX8_wayOf 77 = .ok (.getfield 113, 3) := by decide +kernel
theorem dX8_wayOf_80 : decode cX8_wayOf 80 = .ok (.bipush 6, 2) := by decide +kernel
theorem dX8_wayOf_82 : decode cX8_wayOf 82 = .ok (.iload_n 1, 1) := by decide +kernel
theorem dX8_wayOf_83 : decode cX8_wayOf 83 = .ok (.iadd, 1) := by decide +kernel
theorem dX8_wayOf_84 : decode cX8_wayOf 84 = .ok (.iaload, 1) := by decide +kernel
theorem dX8_wayOf_85 : decode cX8_wayOf 85 = .ok (.iastore, 1) := by decide +kernel
theorem dX8_wayOf_86 : decode cX8_wayOf 86 = .ok (.aload_n 0, 1) := by decide +kernel
theorem dX8_wayOf_87 : decode cX8_wayOf 87 = .ok (.getfield 104, 3) := by decide +kernel
theorem dX8_wayOf_90 : decode cX8_wayOf 90 = .ok (.iconst 3, 1) := by decide +kernel
theorem dX8_wayOf_91 : decode cX8_wayOf 91 = .ok (.iload 4, 2) := by decide +kernel
theorem dX8_wayOf_93 : decode cX8_wayOf 93 = .ok (.iastore, 1) := by decide +kernel
theorem dX8_wayOf_94 : decode cX8_wayOf 94 = .ok (.aload_n 0, 1) := by decide +kernel
theorem dX8_wayOf_95 : decode cX8_wayOf 95 = .ok (.getfield 104, 3) := by decide +kernel
theorem dX8_wayOf_98 : decode cX8_wayOf 98 = .ok (.iconst 4, 1) := by decide +kernel
theorem dX8_wayOf_99 : decode cX8_wayOf 99 = .ok (.iload_n 2, 1) := by decide +kernel
theorem dX8_wayOf_100 : decode cX8_wayOf 100 = .ok (.invokestatic 373, 3) := by decide +kernel
theorem dX8_wayOf_103 : decode cX8_wayOf 103 = .ok (.iastore, 1) := by decide +kernel
theorem dX8_wayOf_104 : decode cX8_wayOf 104 = .ok (.aload_n 0, 1) := by decide +kernel
theorem dX8_wayOf_105 : decode cX8_wayOf 105 = .ok (.getfield 104, 3) := by decide +kernel
theorem dX8_wayOf_108 : decode cX8_wayOf 108 = .ok (.iconst 5, 1) := by decide +kernel
theorem dX8_wayOf_109 : decode cX8_wayOf 109 = .ok (.iload_n 3, 1) := by decide +kernel
theorem dX8_wayOf_110 : decode cX8_wayOf 110 = .ok (.iastore, 1) := by decide +kernel
theorem dX8_wayOf_111 : decode cX8_wayOf 111 = .ok (.aload_n 0, 1) := by decide +kernel
theorem dX8_wayOf_112 : decode cX8_wayOf 112 = .ok (.getfield 104, 3) := by decide +kernel
theorem dX8_wayOf_115 : decode cX8_wayOf 115 = .ok (.bipush 6, 2) := by decide +kernel
theorem dX8_wayOf_117 : decode cX8_wayOf 117 = .ok (.iload_n 1, 1) := by decide +kernel
theorem dX8_wayOf_118 : decode cX8_wayOf 118 = .ok (.iastore, 1) := by decide +kernel
theorem dX8_wayOf_119 : decode cX8_wayOf 119 = .ok (.aload_n 0, 1) := by decide +kernel
theorem dX8_wayOf_120 : decode cX8_wayOf 120 = .ok (.getfield 104, 3) := by decide +kernel
theorem dX8_wayOf_123 : decode cX8_wayOf 123 = .ok (.bipush 7, 2) := by decide +kernel
theorem dX8_wayOf_125 : decode cX8_wayOf 125 = .ok (.aload_n 0, 1) := by decide +kernel
theorem dX8_wayOf_126 : decode cX8_wayOf 126 = .ok (.getfield 61, 3) := by decide +kernel
theorem dX8_wayOf_129 : decode cX8_wayOf 129 = .ok (.bipush 6, 2) := by decide +kernel
theorem dX8_wayOf_131 : decode cX8_wayOf 131 = .ok (.aload_n 0, 1) := by decide +kernel
theorem dX8_wayOf_132 : decode cX8_wayOf 132 = .ok (.getfield 230, 3) := by decide +kernel
theorem dX8_wayOf_135 : decode cX8_wayOf 135 = .ok (.imul, 1) := by decide +kernel
theorem dX8_wayOf_136 : decode cX8_wayOf 136 = .ok (.iload_n 1, 1) := by decide +kernel
theorem dX8_wayOf_137 : decode cX8_wayOf 137 = .ok (.iadd, 1) := by decide +kernel
theorem dX8_wayOf_138 : decode cX8_wayOf 138 = .ok (.iaload, 1) := by decide +kernel
theorem dX8_wayOf_139 : decode cX8_wayOf 139 = .ok (.iastore, 1) := by decide +kernel
theorem dX8_wayOf_140 : decode cX8_wayOf 140 = .ok (.aload_n 0, 1) := by decide +kernel
theorem dX8_wayOf_141 : decode cX8_wayOf 141 = .ok (.getfield 104, 3) := by decide +kernel
theorem dX8_wayOf_144 : decode cX8_wayOf 144 = .ok (.bipush 8, 2) := by decide +kernel
theorem dX8_wayOf_146 : decode cX8_wayOf 146 = .ok (.aload_n 0, 1) := by decide +kernel
theorem dX8_wayOf_147 : decode cX8_wayOf 147 = .ok (.getfield 113, 3) := by decide +kernel
theorem dX8_wayOf_150 : decode cX8_wayOf 150 = .ok (.bipush 31, 2) := by decide +kernel
theorem dX8_wayOf_152 : decode cX8_wayOf 152 = .ok (.iaload, 1) := by decide +kernel
theorem dX8_wayOf_153 : decode cX8_wayOf 153 = .ok (.iastore, 1) := by decide +kernel
theorem dX8_wayOf_154 : decode cX8_wayOf 154 = .ok (.aload_n 0, 1) := by decide +kernel
theorem dX8_wayOf_155 : decode cX8_wayOf 155 = .ok (.iconst 1, 1) := by decide +kernel
theorem dX8_wayOf_156 : decode cX8_wayOf 156 = .ok (.iconst 1, 1) := by decide +kernel
theorem dX8_wayOf_157 : decode cX8_wayOf 157 = .ok (.invokevirtual 341, 3) := by decide +kernel
theorem dX8_wayOf_160 : decode cX8_wayOf 160 = .ok (.istore 5, 2) := by decide +kernel
theorem dX8_wayOf_162 : decode cX8_wayOf 162 = .ok (.iload 5, 2) := by decide +kernel
theorem dX8_wayOf_164 : decode cX8_wayOf 164 = .ok (.ifCond .ge 7, 3) := by decide +kernel
theorem dX8_wayOf_167 : decode cX8_wayOf 167 = .ok (.iconst 0, 1) := by decide +kernel
theorem dX8_wayOf_168 : decode cX8_wayOf 168 = .ok (.goto 7, 3) := by decide +kernel
theorem dX8_wayOf_171 : decode cX8_wayOf 171 = .ok (.iload 5, 2) := by decide +kernel
theorem dX8_wayOf_173 : decode cX8_wayOf 173 = .ok (.iconst 5, 1) := by decide +kernel
theorem dX8_wayOf_174 : decode cX8_wayOf 174 = .ok (.irem, 1) := by decide +kernel
theorem dX8_wayOf_175 : decode cX8_wayOf 175 = .ok (.ireturn, 1) := by decide +kernel
theorem dX8_goesBy_0 : decode cX8_goesBy 0 = .ok (.aload_n 0, 1) := by decide +kernel
theorem dX8_goesBy_1 : decode cX8_goesBy 1 = .ok (.getfield 113, 3) := by decide +kernel
theorem dX8_goesBy_4 : decode cX8_goesBy 4 = .ok (.iload_n 1, 1) := by decide +kernel
theorem dX8_goesBy_5 : decode cX8_goesBy 5 = .ok (.iaload, 1) := by decide +kernel
theorem dX8_goesBy_6 : decode cX8_goesBy 6 = .ok (.iload_n 2, 1) := by decide +kernel
theorem dX8_goesBy_7 : decode cX8_goesBy 7 = .ok (.invokestatic 354, 3) := by decide +kernel
theorem dX8_goesBy_10 : decode cX8_goesBy 10 = .ok (.iadd, 1) := by decide +kernel
theorem dX8_goesBy_11 : decode cX8_goesBy 11 = .ok (.istore_n 3, 1) := by decide +kernel
theorem dX8_goesBy_12 : decode cX8_goesBy 12 = .ok (.aload_n 0, 1) := by decide +kernel
theorem dX8_goesBy_13 : decode cX8_goesBy 13 = .ok (.getfield 113, 3) := by decide +kernel
theorem dX8_goesBy_16 : decode cX8_goesBy 16 = .ok (.bipush 6, 2) := by decide +kernel
theorem dX8_goesBy_18 : decode cX8_goesBy 18 = .ok (.iload_n 1, 1) := by decide +kernel
theorem dX8_goesBy_19 : decode cX8_goesBy 19 = .ok (.iadd, 1) := by decide +kernel
theorem dX8_goesBy_20 : decode cX8_goesBy 20 = .ok (.iaload, 1) := by decide +kernel
theorem dX8_goesBy_21 : decode cX8_goesBy 21 = .ok (.iload_n 2, 1) := by decide +kernel
theorem dX8_goesBy_22 : decode cX8_goesBy 22 = .ok (.invokestatic 357, 3) := by decide +kernel
theorem dX8_goesBy_25 : decode cX8_goesBy 25 = .ok (.iadd, 1) := by decide +kernel
theorem dX8_goesBy_26 : decode cX8_goesBy 26 = .ok (.istore 4, 2) := by decide +kernel
theorem dX8_goesBy_28 : decode cX8_goesBy 28 = .ok (.iload_n 2, 1) := by decide +kernel
theorem dX8_goesBy_29 : decode cX8_goesBy 29 = .ok (.ifCond .eq 13, 3) := by decide +kernel
theorem dX8_goesBy_32 : decode cX8_goesBy 32 = .ok (.aload_n 0, 1) := by decide +kernel
theorem dX8_goesBy_33 : decode cX8_goesBy 33 = .ok (.iload_n 3, 1) := by decide +kernel
theorem dX8_goesBy_34 : decode cX8_goesBy 34 = .ok (.iload 4, 2) := by decide +kernel
theorem dX8_goesBy_36 : decode cX8_goesBy 36 = .ok (.invokevirtual 360, 3) := by decide +kernel
theorem dX8_goesBy_39 : decode cX8_goesBy 39 = .ok (.ifCond .ne 5, 3) := by decide +kernel
theorem dX8_goesBy_42 : decode cX8_goesBy 42 = .ok (.iconst 3, 1) := by decide +kernel
theorem dX8_goesBy_43 : decode cX8_goesBy 43 = .ok (.ireturn, 1) := by decide +kernel
theorem dX8_goesBy_44 : decode cX8_goesBy 44 = .ok (.aload_n 0, 1) := by decide +kernel
theorem dX8_goesBy_45 : decode cX8_goesBy 45 = .ok (.iload_n 3, 1) := by decide +kernel
theorem dX8_goesBy_46 : decode cX8_goesBy 46 = .ok (.iload 4, 2) := by decide +kernel
theorem dX8_goesBy_48 : decode cX8_goesBy 48 = .ok (.invokevirtual 319, 3) := by decide +kernel
theorem dX8_goesBy_51 : decode cX8_goesBy 51 = .ok (.istore 5, 2) := by decide +kernel
theorem dX8_goesBy_53 : decode cX8_goesBy 53 = .ok (.aload_n 0, 1) := by decide +kernel
theorem dX8_goesBy_54 : decode cX8_goesBy 54 = .ok (.getfield 113, 3) := by decide +kernel
theorem dX8_goesBy_57 : decode cX8_goesBy 57 = .ok (.iload_n 1, 1) := by decide +kernel
theorem dX8_goesBy_58 : decode cX8_goesBy 58 = .ok (.iload_n 3, 1) := by decide +kernel
theorem dX8_goesBy_59 : decode cX8_goesBy 59 = .ok (.iastore, 1) := by decide +kernel
theorem dX8_goesBy_60 : decode cX8_goesBy 60 = .ok (.aload_n 0, 1) := by decide +kernel
theorem dX8_goesBy_61 : decode cX8_goesBy 61 = .ok (.getfield 113, 3) := by decide +kernel
theorem dX8_goesBy_64 : decode cX8_goesBy 64 = .ok (.bipush 6, 2) := by decide +kernel
theorem dX8_goesBy_66 : decode cX8_goesBy 66 = .ok (.iload_n 1, 1) := by decide +kernel
theorem dX8_goesBy_67 : decode cX8_goesBy 67 = .ok (.iadd, 1) := by decide +kernel
theorem dX8_goesBy_68 : decode cX8_goesBy 68 = .ok (.iload 4, 2) := by decide +kernel
theorem dX8_goesBy_70 : decode cX8_goesBy 70 = .ok (.iastore, 1) := by decide +kernel
theorem dX8_goesBy_71 : decode cX8_goesBy 71 = .ok (.iload 5, 2) := by decide +kernel
theorem dX8_goesBy_73 : decode cX8_goesBy 73 = .ok (.iconst 1, 1) := by decide +kernel
theorem dX8_goesBy_74 : decode cX8_goesBy 74 = .ok (.if_icmp .ne 13, 3) := by decide +kernel
theorem dX8_goesBy_77 : decode cX8_goesBy 77 = .ok (.aload_n 0, 1) := by decide +kernel
theorem dX8_goesBy_78 : decode cX8_goesBy 78 = .ok (.getfield 113, 3) := by decide +kernel
theorem dX8_goesBy_81 : decode cX8_goesBy 81 = .ok (.bipush 18, 2) := by decide +kernel
theorem dX8_goesBy_83 : decode cX8_goesBy 83 = .ok (.iload_n 1, 1) := by decide +kernel
theorem dX8_goesBy_84 : decode cX8_goesBy 84 = .ok (.iadd, 1) := by decide +kernel
theorem dX8_goesBy_85 : decode cX8_goesBy 85 = .ok (.iconst 1, 1) := by decide +kernel
theorem dX8_goesBy_86 : decode cX8_goesBy 86 = .ok (.iastore, 1) := by decide +kernel
theorem dX8_goesBy_87 : decode cX8_goesBy 87 = .ok (.iload 5, 2) := by decide +kernel
theorem dX8_goesBy_89 : decode cX8_goesBy 89 = .ok (.iconst 2, 1) := by decide +kernel
theorem dX8_goesBy_90 : decode cX8_goesBy 90 = .ok (.if_icmp .ne 8, 3) := by decide +kernel
theorem dX8_goesBy_93 : decode cX8_goesBy 93 = .ok (.aload_n 0, 1) := by decide +kernel
theorem dX8_goesBy_94 : decode cX8_goesBy 94 = .ok (.iload_n 1, 1) := by decide +kernel
theorem dX8_goesBy_95 : decode cX8_goesBy 95 = .ok (.invokevirtual 322, 3) := by decide +kernel
theorem dX8_goesBy_98 : decode cX8_goesBy 98 = .ok (.iload 5, 2) := by decide +kernel
theorem dX8_goesBy_100 : decode cX8_goesBy 100 = .ok (.ifCond .ne 7, 3) := by decide +kernel
theorem dX8_goesBy_103 : decode cX8_goesBy 103 = .ok (.iconst 0, 1) := by decide +kernel
theorem dX8_goesBy_104 : decode cX8_goesBy 104 = .ok (.goto 14, 3) := by decide +kernel
theorem dX8_goesBy_107 : decode cX8_goesBy 107 = .ok (.iload 5, 2) := by decide +kernel
theorem dX8_goesBy_109 : decode cX8_goesBy 109 = .ok (.iconst 2, 1) := by decide +kernel
theorem dX8_goesBy_110 : decode cX8_goesBy 110 = .ok (.if_icmp .ne 7, 3) := by decide +kernel
theorem dX8_goesBy_113 : decode cX8_goesBy 113 = .ok (.iconst 1, 1) := by decide +kernel
theorem dX8_goesBy_114 : decode cX8_goesBy 114 = .ok (.goto 4, 3) := by decide +kernel
theorem dX8_goesBy_117 : decode cX8_goesBy 117 = .ok (.iconst 2, 1) := by decide +kernel
theorem dX8_goesBy_118 : decode cX8_goesBy 118 = .ok (.ireturn, 1) := by decide +kernel
theorem dX8_hourGoes_0 : decode cX8_hourGoes 0 = .ok (.iconst 0, 1) := by decide +kernel
theorem dX8_hourGoes_1 : decode cX8_hourGoes 1 = .ok (.istore_n 1, 1) := by decide +kernel
theorem dX8_hourGoes_2 : decode cX8_hourGoes 2 = .ok (.iload_n 1, 1) := by decide +kernel
theorem dX8_hourGoes_3 : decode cX8_hourGoes 3 = .ok (.aload_n 0, 1) := by decide +kernel
theorem dX8_hourGoes_4 : decode cX8_hourGoes 4 = .ok (.getfield 52, 3) := by decide +kernel
theorem dX8_hourGoes_7 : decode cX8_hourGoes 7 = .ok (.aload_n 0, 1) := by decide +kernel
theorem dX8_hourGoes_8 : decode cX8_hourGoes 8 = .ok (.getfield 230, 3) := by decide +kernel
theorem dX8_hourGoes_11 : decode cX8_hourGoes 11 = .ok (.iaload, 1) := by decide +kernel
theorem dX8_hourGoes_12 : decode cX8_hourGoes 12 = .ok (.if_icmp .ge 32, 3) := by decide +kernel
theorem dX8_hourGoes_15 : decode cX8_hourGoes 15 = .ok (.aload_n 0, 1) := by decide +kernel
theorem dX8_hourGoes_16 : decode cX8_hourGoes 16 = .ok (.getfield 116, 3) := by decide +kernel
theorem dX8_hourGoes_19 : decode cX8_hourGoes 19 = .ok (.iload_n 1, 1) := by decide +kernel
theorem dX8_hourGoes_20 : decode cX8_hourGoes 20 = .ok (.aload_n 0, 1) := by decide +kernel
theorem dX8_hourGoes_21 : decode cX8_hourGoes 21 = .ok (.iload_n 1, 1) := by decide +kernel
theorem dX8_hourGoes_22 : decode cX8_hourGoes 22 = .ok (.invokevirtual 347, 3) := by decide +kernel
theorem dX8_hourGoes_25 : decode cX8_hourGoes 25 = .ok (.ifCond .eq 11, 3) := by decide +kernel
theorem dX8_hourGoes_28 : decode cX8_hourGoes 28 = .ok (.aload_n 0, 1) := by decide +kernel
theorem dX8_hourGoes_29 : decode cX8_hourGoes 29 = .ok (.iload_n 1, 1) := by decide +kernel
theorem dX8_hourGoes_30 : decode cX8_hourGoes 30 = .ok (.invokevirtual 376, 3) := by decide +kernel
theorem dX8_hourGoes_33 : decode cX8_hourGoes 33 = .ok (.goto 4, 3) := by decide +kernel
theorem dX8_hourGoes_36 : decode cX8_hourGoes 36 = .ok (.iconst 0, 1) := by decide +kernel
theorem dX8_hourGoes_37 : decode cX8_hourGoes 37 = .ok (.iastore, 1) := by decide +kernel
theorem dX8_hourGoes_38 : decode cX8_hourGoes 38 = .ok (.iinc 1 1, 3) := by decide +kernel
theorem dX8_hourGoes_41 : decode cX8_hourGoes 41 = .ok (.goto (-39), 3) := by decide +kernel
theorem dX8_hourGoes_44 : decode cX8_hourGoes 44 = .ok (.iconst 0, 1) := by decide +kernel
theorem dX8_hourGoes_45 : decode cX8_hourGoes 45 = .ok (.istore_n 1, 1) := by decide +kernel
theorem dX8_hourGoes_46 : decode cX8_hourGoes 46 = .ok (.iload_n 1, 1) := by decide +kernel
theorem dX8_hourGoes_47 : decode cX8_hourGoes 47 = .ok (.aload_n 0, 1) := by decide +kernel
theorem dX8_hourGoes_48 : decode cX8_hourGoes 48 = .ok (.getfield 52, 3) := by decide +kernel
theorem dX8_hourGoes_51 : decode cX8_hourGoes 51 = .ok (.aload_n 0, 1) := by decide +kernel
theorem dX8_hourGoes_52 : decode cX8_hourGoes 52 = .ok (.getfield 230, 3) := by decide +kernel
theorem dX8_hourGoes_55 : decode cX8_hourGoes 55 = .ok (.iaload, 1) := by decide +kernel
theorem dX8_hourGoes_56 : decode cX8_hourGoes 56 = .ok (.if_icmp .ge 21, 3) := by decide +kernel
theorem dX8_hourGoes_59 : decode cX8_hourGoes 59 = .ok (.aload_n 0, 1) := by decide +kernel
theorem dX8_hourGoes_60 : decode cX8_hourGoes 60 = .ok (.iload_n 1, 1) := by decide +kernel
theorem dX8_hourGoes_61 : decode cX8_hourGoes 61 = .ok (.aload_n 0, 1) := by decide +kernel
theorem dX8_hourGoes_62 : decode cX8_hourGoes 62 = .ok (.getfield 116, 3) := by decide +kernel
theorem dX8_hourGoes_65 : decode cX8_hourGoes 65 = .ok (.iload_n 1, 1) := by decide +kernel
theorem dX8_hourGoes_66 : decode cX8_hourGoes 66 = .ok (.iaload, 1) := by decide +kernel
theorem dX8_hourGoes_67 : decode cX8_hourGoes 67 = .ok (.invokevirtual 379, 3) := by decide +kernel
theorem dX8_hourGoes_70 : decode cX8_hourGoes 70 = .ok (.pop, 1) := by decide +kernel
theorem dX8_hourGoes_71 : decode cX8_hourGoes 71 = .ok (.iinc 1 1, 3) := by decide +kernel
theorem dX8_hourGoes_74 : decode cX8_hourGoes 74 = .ok (.goto (-28), 3) := by decide +kernel
theorem dX8_hourGoes_77 : decode cX8_hourGoes 77 = .ok (.aload_n 0, 1) := by decide +kernel
theorem dX8_hourGoes_78 : decode cX8_hourGoes 78 = .ok (.getfield 113, 3) := by decide +kernel
theorem dX8_hourGoes_81 : decode cX8_hourGoes 81 = .ok (.bipush 30, 2) := by decide +kernel
theorem dX8_hourGoes_83 : decode cX8_hourGoes 83 = .ok (.dup2, 1) := by decide +kernel
theorem dX8_hourGoes_84 : decode cX8_hourGoes 84 = .ok (.iaload, 1) := by decide +kernel
theorem dX8_hourGoes_85 : decode cX8_hourGoes 85 = .ok (.iconst 1, 1) := by decide +kernel
theorem dX8_hourGoes_86 : decode cX8_hourGoes 86 = .ok (.iadd, 1) := by decide +kernel
theorem dX8_hourGoes_87 : decode cX8_hourGoes 87 = .ok (.iastore, 1) := by decide +kernel
theorem dX8_hourGoes_88 : decode cX8_hourGoes 88 = .ok (.aload_n 0, 1) := by decide +kernel
theorem dX8_hourGoes_89 : decode cX8_hourGoes 89 = .ok (.invokevirtual 325, 3) := by decide +kernel
theorem dX8_hourGoes_92 : decode cX8_hourGoes 92 = .ok (.return_, 1) := by decide +kernel
theorem dX8_goes_0 : decode cX8_goes 0 = .ok (.iconst 0, 1) := by decide +kernel
theorem dX8_goes_1 : decode cX8_goes 1 = .ok (.istore_n 2, 1) := by decide +kernel
theorem dX8_goes_2 : decode cX8_goes 2 = .ok (.iload_n 2, 1) := by decide +kernel
theorem dX8_goes_3 : decode cX8_goes 3 = .ok (.iload_n 1, 1) := by decide +kernel
theorem dX8_goes_4 : decode cX8_goes 4 = .ok (.if_icmp .ge 13, 3) := by decide +kernel
theorem dX8_goes_7 : decode cX8_goes 7 = .ok (.aload_n 0, 1) := by decide +kernel
theorem dX8_goes_8 : decode cX8_goes 8 = .ok (.invokevirtual 382, 3) := by decide +kernel
theorem dX8_goes_11 : decode cX8_goes 11 = .ok (.iinc 2 1, 3) := by decide +kernel
theorem dX8_goes_14 : decode cX8_goes 14 = .ok (.goto (-12), 3) := by decide +kernel
theorem dX8_goes_17 : decode cX8_goes 17 = .ok (.return_, 1) := by decide +kernel
theorem dX8_isLost_0 : decode cX8_isLost 0 = .ok (.aload_n 0, 1) := by decide +kernel
theorem dX8_isLost_1 : decode cX8_isLost 1 = .ok (.getfield 113, 3) := by decide +kernel
theorem dX8_isLost_4 : decode cX8_isLost 4 = .ok (.bipush 18, 2) := by decide +kernel
theorem dX8_isLost_6 : decode cX8_isLost 6 = .ok (.iload_n 1, 1) := by decide +kernel
theorem dX8_isLost_7 : decode cX8_isLost 7 = .ok (.iadd, 1) := by decide +kernel
theorem dX8_isLost_8 : decode cX8_isLost 8 = .ok (.iaload, 1) := by decide +kernel
theorem dX8_isLost_9 : decode cX8_isLost 9 = .ok (.iconst 1, 1) := by decide +kernel
theorem dX8_isLost_10 : decode cX8_isLost 10 = .ok (.if_icmp .ne 7, 3) := by decide +kernel
theorem dX8_isLost_13 : decode cX8_isLost 13 = .ok (.iconst 1, 1) := by decide +kernel
theorem dX8_isLost_14 : decode cX8_isLost 14 = .ok (.goto 4, 3) := by decide +kernel
theorem dX8_isLost_17 : decode cX8_isLost 17 = .ok (.iconst 0, 1) := by decide +kernel
theorem dX8_isLost_18 : decode cX8_isLost 18 = .ok (.ireturn, 1) := by decide +kernel
theorem dX8_isAhead_0 : decode cX8_isAhead 0 = .ok (.aload_n 0, 1) := by decide +kernel
theorem dX8_isAhead_1 : decode cX8_isAhead 1 = .ok (.iload_n 1, 1) := by decide +kernel
theorem dX8_isAhead_2 : decode cX8_isAhead 2 = .ok (.invokevirtual 385, 3) := by decide +kernel
theorem dX8_isAhead_5 : decode cX8_isAhead 5 = .ok (.ifCond .ne 11, 3) := by decide +kernel
theorem dX8_isAhead_8 : decode cX8_isAhead 8 = .ok (.aload_n 0, 1) := by decide +kernel
theorem dX8_isAhead_9 : decode cX8_isAhead 9 = .ok (.iload_n 2, 1) := by decide +kernel
theorem dX8_isAhead_10 : decode cX8_isAhead 10 = .ok (.invokevirtual 385, 3) := by decide +kernel
theorem dX8_isAhead_13 : decode cX8_isAhead 13 = .ok (.ifCond .eq 34, 3) := by decide +kernel
theorem dX8_isAhead_16 : decode cX8_isAhead 16 = .ok (.aload_n 0, 1) := by decide +kernel
theorem dX8_isAhead_17 : decode cX8_isAhead 17 = .ok (.iload_n 1, 1) := by decide +kernel
theorem dX8_isAhead_18 : decode cX8_isAhead 18 = .ok (.invokevirtual 385, 3) := by decide +kernel
theorem dX8_isAhead_21 : decode cX8_isAhead 21 = .ok (.ifCond .eq 24, 3) := by decide +kernel
theorem dX8_isAhead_24 : decode cX8_isAhead 24 = .ok (.aload_n 0, 1) := by decide +kernel
theorem dX8_isAhead_25 : decode cX8_isAhead 25 = .ok (.iload_n 2, 1) := by decide +kernel
theorem dX8_isAhead_26 : decode cX8_isAhead 26 = .ok (.invokevirtual 385, 3) := by decide +kernel
theorem dX8_isAhead_29 : decode cX8_isAhead 29 = .ok (.ifCond .eq 12, 3) := by decide +kernel
theorem dX8_isAhead_32 : decode cX8_isAhead 32 = .ok (.iload_n 1, 1) := by decide +kernel
theorem dX8_isAhead_33 : decode cX8_isAhead 33 = .ok (.iload_n 2, 1) := by decide +kernel
theorem dX8_isAhead_34 : decode cX8_isAhead 34 = .ok (.if_icmp .ge 7, 3) := by decide +kernel
theorem dX8_isAhead_37 : decode cX8_isAhead 37 = .ok (.iconst 1, 1) := by decide +kernel
theorem dX8_isAhead_38 : decode cX8_isAhead 38 = .ok (.goto 8, 3) := by decide +kernel
theorem dX8_isAhead_41 : decode cX8_isAhead 41 = .ok (.iconst 0, 1) := by decide +kernel
theorem dX8_isAhead_42 : decode cX8_isAhead 42 = .ok (.goto 4, 3) := by decide +kernel
theorem dX8_isAhead_45 : decode cX8_isAhead 45 = .ok (.iconst 1, 1) := by decide +kernel
theorem dX8_isAhead_46 : decode cX8_isAhead 46 = .ok (.ireturn, 1) := by decide +kernel
theorem dX8_isAhead_47 : decode cX8_isAhead 47 = .ok (.aload_n 0, 1) := by decide +kernel
theorem dX8_isAhead_48 : decode cX8_isAhead 48 = .ok (.getfield 113, 3) := by decide +kernel
theorem dX8_isAhead_51 : decode cX8_isAhead 51 = .ok (.bipush 12, 2) := by decide +kernel
theorem dX8_isAhead_53 : decode cX8_isAhead 53 = .ok (.iload_n 1, 1) := by decide +kernel
theorem dX8_isAhead_54 : decode cX8_isAhead 54 = .ok (.iadd, 1) := by decide +kernel
theorem dX8_isAhead_55 : decode cX8_isAhead 55 = .ok (.iaload, 1) := by decide +kernel
theorem dX8_isAhead_56 : decode cX8_isAhead 56 = .ok (.istore_n 3, 1) := by decide +kernel
theorem dX8_isAhead_57 : decode cX8_isAhead 57 = .ok (.aload_n 0, 1) := by decide +kernel
theorem dX8_isAhead_58 : decode cX8_isAhead 58 = .ok (.getfield 113, 3) := by decide +kernel
theorem dX8_isAhead_61 : decode cX8_isAhead 61 = .ok (.bipush 12, 2) := by decide +kernel
theorem dX8_isAhead_63 : decode cX8_isAhead 63 = .ok (.iload_n 2, 1) := by decide +kernel
theorem dX8_isAhead_64 : decode cX8_isAhead 64 = .ok (.iadd, 1) := by decide +kernel
theorem dX8_isAhead_65 : decode cX8_isAhead 65 = .ok (.iaload, 1) := by decide +kernel
theorem dX8_isAhead_66 : decode cX8_isAhead 66 = .ok (.istore 4, 2) := by decide +kernel
theorem dX8_isAhead_68 : decode cX8_isAhead 68 = .ok (.iload_n 3, 1) := by decide +kernel
theorem dX8_isAhead_69 : decode cX8_isAhead 69 = .ok (.ifCond .gt 8, 3) := by decide +kernel
theorem dX8_isAhead_72 : decode cX8_isAhead 72 = .ok (.iload 4, 2) := by decide +kernel
theorem dX8_isAhead_74 : decode cX8_isAhead 74 = .ok (.ifCond .le 24, 3) := by decide +kernel
theorem dX8_isAhead_77 : decode cX8_isAhead 77 = .ok (.iload_n 3, 1) := by decide +kernel
theorem dX8_isAhead_78 : decode cX8_isAhead 78 = .ok (.ifCond .le 18, 3) := by decide +kernel
theorem dX8_isAhead_81 : decode cX8_isAhead 81 = .ok (.iload 4, 2) := by decide +kernel
theorem dX8_isAhead_83 : decode cX8_isAhead 83 = .ok (.ifCond .eq 9, 3) := by decide +kernel
theorem dX8_isAhead_86 : decode cX8_isAhead 86 = .ok (.iload_n 3, 1) := by decide +kernel
theorem dX8_isAhead_87 : decode cX8_isAhead 87 = .ok (.iload 4, 2) := by decide +kernel
theorem dX8_isAhead_89 : decode cX8_isAhead 89 = .ok (.if_icmp .ge 7, 3) := by decide +kernel
theorem dX8_isAhead_92 : decode cX8_isAhead 92 = .ok (.iconst 1, 1) := by decide +kernel
theorem dX8_isAhead_93 : decode cX8_isAhead 93 = .ok (.goto 4, 3) := by decide +kernel
theorem dX8_isAhead_96 : decode cX8_isAhead 96 = .ok (.iconst 0, 1) := by decide +kernel
theorem dX8_isAhead_97 : decode cX8_isAhead 97 = .ok (.ireturn, 1) := by decide +kernel
theorem dX8_isAhead_98 : decode cX8_isAhead 98 = .ok (.aload_n 0, 1) := by decide +kernel
theorem dX8_isAhead_99 : decode cX8_isAhead 99 = .ok (.getfield 113, 3) := by decide +kernel
theorem dX8_isAhead_102 : decode cX8_isAhead 102 = .ok (.iload_n 1, 1) := by decide +kernel
theorem dX8_isAhead_103 : decode cX8_isAhead 103 = .ok (.iaload, 1) := by decide +kernel
theorem dX8_isAhead_104 : decode cX8_isAhead 104 = .ok (.aload_n 0, 1) := by decide +kernel
theorem dX8_isAhead_105 : decode cX8_isAhead 105 = .ok (.getfield 113, 3) := by decide +kernel
theorem dX8_isAhead_108 : decode cX8_isAhead 108 = .ok (.iload_n 2, 1) := by decide +kernel
theorem dX8_isAhead_109 : decode cX8_isAhead 109 = .ok (.iaload, 1) := by decide +kernel
theorem dX8_isAhead_110 : decode cX8_isAhead 110 = .ok (.if_icmp .gt 23, 3) := by decide +kernel
theorem dX8_isAhead_113 : decode cX8_isAhead 113 = .ok (.aload_n 0, 1) := by decide +kernel
theorem dX8_isAhead_114 : decode cX8_isAhead 114 = .ok (.getfield 113, 3) := by decide +kernel
theorem dX8_isAhead_117 : decode cX8_isAhead 117 = .ok (.iload_n 1, 1) := by decide +kernel
theorem dX8_isAhead_118 : decode cX8_isAhead 118 = .ok (.iaload, 1) := by decide +kernel
theorem dX8_isAhead_119 : decode cX8_isAhead 119 = .ok (.aload_n 0, 1) := by decide +kernel
theorem dX8_isAhead_120 : decode cX8_isAhead 120 = .ok (.getfield 113, 3) := by decide +kernel
theorem dX8_isAhead_123 : decode cX8_isAhead 123 = .ok (.iload_n 2, 1) := by decide +kernel
theorem dX8_isAhead_124 : decode cX8_isAhead 124 = .ok (.iaload, 1) := by decide +kernel
theorem dX8_isAhead_125 : decode cX8_isAhead 125 = .ok (.if_icmp .ne 12, 3) := by decide +kernel
theorem dX8_isAhead_128 : decode cX8_isAhead 128 = .ok (.iload_n 1, 1) := by decide +kernel
theorem dX8_isAhead_129 : decode cX8_isAhead 129 = .ok (.iload_n 2, 1) := by decide +kernel
theorem dX8_isAhead_130 : decode cX8_isAhead 130 = .ok (.if_icmp .ge 7, 3) := by decide +kernel
theorem dX8_isAhead_133 : decode cX8_isAhead 133 = .ok (.iconst 1, 1) := by decide +kernel
theorem dX8_isAhead_134 : decode cX8_isAhead 134 = .ok (.goto 4, 3) := by decide +kernel
theorem dX8_isAhead_137 : decode cX8_isAhead 137 = .ok (.iconst 0, 1) := by decide +kernel
theorem dX8_isAhead_138 : decode cX8_isAhead 138 = .ok (.ireturn, 1) := by decide +kernel
theorem dX8_rankOf_0 : decode cX8_rankOf 0 = .ok (.iconst 0, 1) := by decide +kernel
theorem dX8_rankOf_1 : decode cX8_rankOf 1 = .ok (.istore_n 2, 1) := by decide +kernel
theorem dX8_rankOf_2 : decode cX8_rankOf 2 = .ok (.iconst 0, 1) := by decide +kernel
theorem dX8_rankOf_3 : decode cX8_rankOf 3 = .ok (.istore_n 3, 1) := by decide +kernel
theorem dX8_rankOf_4 : decode cX8_rankOf 4 = .ok (.iload_n 3, 1) := by decide +kernel
theorem dX8_rankOf_5 : decode cX8_rankOf 5 = .ok (.aload_n 0, 1) := by decide +kernel
theorem dX8_rankOf_6 : decode cX8_rankOf 6 = .ok (.getfield 52, 3) := by decide +kernel
theorem dX8_rankOf_9 : decode cX8_rankOf 9 = .ok (.aload_n 0, 1) := by decide +kernel
theorem dX8_rankOf_10 : decode cX8_rankOf 10 = .ok (.getfield 230, 3) := by decide +kernel
theorem dX8_rankOf_13 : decode cX8_rankOf 13 = .ok (.iaload, 1) := by decide +kernel
theorem dX8_rankOf_14 : decode cX8_rankOf 14 = .ok (.if_icmp .ge 26, 3) := by decide +kernel
theorem dX8_rankOf_17 : decode cX8_rankOf 17 = .ok (.iload_n 3, 1) := by decide +kernel
theorem dX8_rankOf_18 : decode cX8_rankOf 18 = .ok (.iload_n 1, 1) := by decide +kernel
theorem dX8_rankOf_19 : decode cX8_rankOf 19 = .ok (.if_icmp .eq 15, 3) := by decide +kernel
theorem dX8_rankOf_22 : decode cX8_rankOf 22 = .ok (.aload_n 0, 1) := by decide +kernel
theorem dX8_rankOf_23 : decode cX8_rankOf 23 = .ok (.iload_n 3, 1) := by decide +kernel
theorem dX8_rankOf_24 : decode cX8_rankOf 24 = .ok (.iload_n 1, 1) := by decide +kernel
theorem dX8_rankOf_25 : decode cX8_rankOf 25 = .ok (.invokevirtual 388, 3) := by decide +kernel
theorem dX8_rankOf_28 : decode cX8_rankOf 28 = .ok (.ifCond .eq 6, 3) := by decide +kernel
theorem dX8_rankOf_31 : decode cX8_rankOf 31 = .ok (.iinc 2 1, 3) := by decide +kernel
theorem dX8_rankOf_34 : decode cX8_rankOf 34 = .ok (.iinc 3 1, 3) := by decide +kernel
theorem dX8_rankOf_37 : decode cX8_rankOf 37 = .ok (.goto (-33), 3) := by decide +kernel
theorem dX8_rankOf_40 : decode cX8_rankOf 40 = .ok (.iload_n 2, 1) := by decide +kernel
theorem dX8_rankOf_41 : decode cX8_rankOf 41 = .ok (.ireturn, 1) := by decide +kernel
theorem dX8_rankedNow_0 : decode cX8_rankedNow 0 = .ok (.iconst 0, 1) := by decide +kernel
theorem dX8_rankedNow_1 : decode cX8_rankedNow 1 = .ok (.istore_n 2, 1) := by decide +kernel
theorem dX8_rankedNow_2 : decode cX8_rankedNow 2 = .ok (.iload_n 2, 1) := by decide +kernel
theorem dX8_rankedNow_3 : decode cX8_rankedNow 3 = .ok (.aload_n 0, 1) := by decide +kernel
theorem dX8_rankedNow_4 : decode cX8_rankedNow 4 = .ok (.getfield 52, 3) := by decide +kernel
theorem dX8_rankedNow_7 : decode cX8_rankedNow 7 = .ok (.aload_n 0, 1) := by decide +kernel
theorem dX8_rankedNow_8 : decode cX8_rankedNow 8 = .ok (.getfield 230, 3) := by decide +kernel
theorem dX8_rankedNow_11 : decode cX8_rankedNow 11 = .ok (.iaload, 1) := by decide +kernel
theorem dX8_rankedNow_12 : decode cX8_rankedNow 12 = .ok (.if_icmp .ge 20, 3) := by decide +kernel
theorem dX8_rankedNow_15 : decode cX8_rankedNow 15 = .ok (.aload_n 0, 1) := by decide +kernel
theorem dX8_rankedNow_16 : decode cX8_rankedNow 16 = .ok (.iload_n 2, 1) := by decide +kernel
theorem dX8_rankedNow_17 : decode cX8_rankedNow 17 = .ok (.invokevirtual 391, 3) := by decide +kernel
theorem dX8_rankedNow_20 : decode cX8_rankedNow 20 = .ok (.iload_n 1, 1) := by decide +kernel
theorem dX8_rankedNow_21 : decode cX8_rankedNow 21 = .ok (.if_icmp .ne 5, 3) := by decide +kernel
theorem dX8_rankedNow_24 : decode cX8_rankedNow 24 = .ok (.iload_n 2, 1) := by decide +kernel
theorem dX8_rankedNow_25 : decode cX8_rankedNow 25 = .ok (.ireturn, 1) := by decide +kernel
theorem dX8_rankedNow_26 : decode cX8_rankedNow 26 = .ok (.iinc 2 1, 3) := by decide +kernel
theorem dX8_rankedNow_29 : decode cX8_rankedNow 29 = .ok (.goto (-27), 3) := by decide +kernel
theorem dX8_rankedNow_32 : decode cX8_rankedNow 32 = .ok (.iconst (-1), 1) := by decide +kernel
theorem dX8_rankedNow_33 : decode cX8_rankedNow 33 = .ok (.ireturn, 1) := by decide +kernel
theorem dX8_boat_0 : decode cX8_boat 0 = .ok (.aload_n 0, 1) := by decide +kernel
theorem dX8_boat_1 : decode cX8_boat 1 = .ok (.iload_n 1, 1) := by decide +kernel
theorem dX8_boat_2 : decode cX8_boat 2 = .ok (.invokevirtual 394, 3) := by decide +kernel
theorem dX8_boat_5 : decode cX8_boat 5 = .ok (.ifCond .ne 5, 3) := by decide +kernel
theorem dX8_boat_8 : decode cX8_boat 8 = .ok (.iconst (-1), 1) := by decide +kernel
theorem dX8_boat_9 : decode cX8_boat 9 = .ok (.ireturn, 1) := by decide +kernel
theorem dX8_boat_10 : decode cX8_boat 10 = .ok (.aload_n 0, 1) := by decide +kernel
theorem dX8_boat_11 : decode cX8_boat 11 = .ok (.invokevirtual 397, 3) := by decide +kernel
theorem dX8_boat_14 : decode cX8_boat 14 = .ok (.iload_n 2, 1) := by decide +kernel
theorem dX8_boat_15 : decode cX8_boat 15 = .ok (.tableswitch 135 0 7 #[45, 45, 70, 97, 97, 109, 115, 129], 45) := by decide +kernel
theorem dX8_boat_60 : decode cX8_boat 60 = .ok (.aload_n 0, 1) := by decide +kernel
theorem dX8_boat_61 : decode cX8_boat 61 = .ok (.iload_n 1, 1) := by decide +kernel
theorem dX8_boat_62 : decode cX8_boat 62 = .ok (.invokevirtual 385, 3) := by decide +kernel
theorem dX8_boat_65 : decode cX8_boat 65 = .ok (.ifCond .eq 8, 3) := by decide +kernel
theorem dX8_boat_68 : decode cX8_boat 68 = .ok (.bipush (-2), 2) := by decide +kernel
theorem dX8_boat_70 : decode cX8_boat 70 = .ok (.goto 14, 3) := by decide +kernel
theorem dX8_boat_73 : decode cX8_boat 73 = .ok (.aload_n 0, 1) := by decide +kernel
theorem dX8_boat_74 : decode cX8_boat 74 = .ok (.getfield 113, 3) := by decide +kernel
theorem dX8_boat_77 : decode cX8_boat 77 = .ok (.bipush 6, 2) := by decide +kernel
theorem dX8_boat_79 : decode cX8_boat 79 = .ok (.iload_n 2, 1) := by decide +kernel
theorem dX8_boat_80 : decode cX8_boat 80 = .ok (.imul, 1) := by decide +kernel
theorem dX8_boat_81 : decode cX8_boat 81 = .ok (.iload_n 1, 1) := by decide +kernel
theorem dX8_boat_82 : decode cX8_boat 82 = .ok (.iadd, 1) := by decide +kernel
theorem dX8_boat_83 : decode cX8_boat 83 = .ok (.iaload, 1) := by decide +kernel
theorem dX8_boat_84 : decode cX8_boat 84 = .ok (.ireturn, 1) := by decide +kernel
theorem dX8_boat_85 : decode cX8_boat 85 = .ok (.aload_n 0, 1) := by decide +kernel
theorem dX8_boat_86 : decode cX8_boat 86 = .ok (.getfield 113, 3) := by decide +kernel
theorem dX8_boat_89 : decode cX8_boat 89 = .ok (.bipush 12, 2) := by decide +kernel
theorem dX8_boat_91 : decode cX8_boat 91 = .ok (.iload_n 1, 1) := by decide +kernel
theorem dX8_boat_92 : decode cX8_boat 92 = .ok (.iadd, 1) := by decide +kernel
theorem dX8_boat_93 : decode cX8_boat 93 = .ok (.iaload, 1) := by decide +kernel
theorem dX8_boat_94 : decode cX8_boat 94 = .ok (.ifCond .ne 8, 3) := by decide +kernel
theorem dX8_boat_97 : decode cX8_boat 97 = .ok (.bipush (-2), 2) := by decide +kernel
theorem dX8_boat_99 : decode cX8_boat 99 = .ok (.goto 12, 3) := by decide +kernel
theorem dX8_boat_102 : decode cX8_boat 102 = .ok (.aload_n 0, 1) := by decide +kernel
theorem dX8_boat_103 : decode cX8_boat 103 = .ok (.getfield 113, 3) := by decide +kernel
theorem dX8_boat_106 : decode cX8_boat 106 = .ok (.bipush 12, 2) := by decide +kernel
theorem dX8_boat_108 : decode cX8_boat 108 = .ok (.iload_n 1, 1) := by decide +kernel
theorem dX8_boat_109 : decode cX8_boat 109 = .ok (.iadd, 1) := by decide +kernel
theorem dX8_boat_110 : decode cX8_boat 110 = .ok (.iaload, 1) := by decide +kernel
theorem dX8_boat_111 : decode cX8_boat 111 = .ok (.ireturn, 1) := by decide +kernel
theorem dX8_boat_112 : decode cX8_boat 112 = .ok (.aload_n 0, 1) := by decide +kernel
theorem dX8_boat_113 : decode cX8_boat 113 = .ok (.getfield 113, 3) := by decide +kernel
theorem dX8_boat_116 : decode cX8_boat 116 = .ok (.bipush 6, 2) := by decide +kernel
theorem dX8_boat_118 : decode cX8_boat 118 = .ok (.iload_n 2, 1) := by decide +kernel
theorem dX8_boat_119 : decode cX8_boat 119 = .ok (.imul, 1) := by decide +kernel
theorem dX8_boat_120 : decode cX8_boat 120 = .ok (.iload_n 1, 1) := by decide +kernel
theorem dX8_boat_121 : decode cX8_boat 121 = .ok (.iadd, 1) := by decide +kernel
theorem dX8_boat_122 : decode cX8_boat 122 = .ok (.iaload, 1) := by decide +kernel
theorem dX8_boat_123 : decode cX8_boat 123 = .ok (.ireturn, 1) := by decide +kernel
theorem dX8_boat_124 : decode cX8_boat 124 = .ok (.aload_n 0, 1) := by decide +kernel
theorem dX8_boat_125 : decode cX8_boat 125 = .ok (.iload_n 1, 1) := by decide +kernel
theorem dX8_boat_126 : decode cX8_boat 126 = .ok (.invokevirtual 370, 3) := by decide +kernel
theorem dX8_boat_129 : decode cX8_boat 129 = .ok (.ireturn, 1) := by decide +kernel
theorem dX8_boat_130 : decode cX8_boat 130 = .ok (.aload_n 0, 1) := by decide +kernel
theorem dX8_boat_131 : decode cX8_boat 131 = .ok (.iload_n 1, 1) := by decide +kernel
theorem dX8_boat_132 : decode cX8_boat 132 = .ok (.invokevirtual 364, 3) := by decide +kernel
theorem dX8_boat_135 : decode cX8_boat 135 = .ok (.ifCond .eq 7, 3) := by decide +kernel
theorem dX8_boat_138 : decode cX8_boat 138 = .ok (.iconst 1, 1) := by decide +kernel
theorem dX8_boat_139 : decode cX8_boat 139 = .ok (.goto 4, 3) := by decide +kernel
theorem dX8_boat_142 : decode cX8_boat 142 = .ok (.iconst 0, 1) := by decide +kernel
theorem dX8_boat_143 : decode cX8_boat 143 = .ok (.ireturn, 1) := by decide +kernel
theorem dX8_boat_144 : decode cX8_boat 144 = .ok (.aload_n 0, 1) := by decide +kernel
theorem dX8_boat_145 : decode cX8_boat 145 = .ok (.iload_n 1, 1) := by decide +kernel
theorem dX8_boat_146 : decode cX8_boat 146 = .ok (.invokevirtual 391, 3) := by decide +kernel
theorem dX8_boat_149 : decode cX8_boat 149 = .ok (.ireturn, 1) := by decide +kernel
theorem dX8_boat_150 : decode cX8_boat 150 = .ok (.iconst (-1), 1) := by decide +kernel
theorem dX8_boat_151 : decode cX8_boat 151 = .ok (.ireturn, 1) := by decide +kernel
theorem dX8_smeltAt_0 : decode cX8_smeltAt 0 = .ok (.iconst 0, 1) := by decide +kernel
theorem dX8_smeltAt_1 : decode cX8_smeltAt 1 = .ok (.istore_n 3, 1) := by decide +kernel
theorem dX8_smeltAt_2 : decode cX8_smeltAt 2 = .ok (.iconst 0, 1) := by decide +kernel
theorem dX8_smeltAt_3 : decode cX8_smeltAt 3 = .ok (.istore 4, 2) := by decide +kernel
theorem dX8_smeltAt_5 : decode cX8_smeltAt 5 = .ok (.iload 4, 2) := by decide +kernel
theorem dX8_smeltAt_7 : decode cX8_smeltAt 7 = .ok (.aload_n 0, 1) := by decide +kernel
theorem dX8_smeltAt_8 : decode cX8_smeltAt 8 = .ok (.getfield 52, 3) := by decide +kernel
theorem dX8_smeltAt_11 : decode cX8_smeltAt 11 = .ok (.aload_n 0, 1) := by decide +kernel
theorem dX8_smeltAt_12 : decode cX8_smeltAt 12 = .ok (.getfield 230, 3) := by decide +kernel
theorem dX8_smeltAt_15 : decode cX8_smeltAt 15 = .ok (.iaload, 1) := by decide +kernel
theorem dX8_smeltAt_16 : decode cX8_smeltAt 16 = .ok (.if_icmp .ge 27, 3) := by decide +kernel
theorem dX8_smeltAt_19 : decode cX8_smeltAt 19 = .ok (.aload_n 0, 1) := by decide +kernel
theorem dX8_smeltAt_20 : decode cX8_smeltAt 20 = .ok (.iload_n 1, 1) := by decide +kernel
theorem dX8_smeltAt_21 : decode cX8_smeltAt 21 = .ok (.iload_n 2, 1) := by decide +kernel
theorem dX8_smeltAt_22 : decode cX8_smeltAt 22 = .ok (.iload 4, 2) := by decide +kernel
theorem dX8_smeltAt_24 : decode cX8_smeltAt 24 = .ok (.invokevirtual 367, 3) := by decide +kernel
theorem dX8_smeltAt_27 : decode cX8_smeltAt 27 = .ok (.ifCond .eq 10, 3) := by decide +kernel
theorem dX8_smeltAt_30 : decode cX8_smeltAt 30 = .ok (.iload_n 3, 1) := by decide +kernel
theorem dX8_smeltAt_31 : decode cX8_smeltAt 31 = .ok (.iconst 1, 1) := by decide +kernel
theorem dX8_smeltAt_32 : decode cX8_smeltAt 32 = .ok (.iload 4, 2) := by decide +kernel
theorem dX8_smeltAt_34 : decode cX8_smeltAt 34 = .ok (.ishl, 1) := by decide +kernel
theorem dX8_smeltAt_35 : decode cX8_smeltAt 35 = .ok (.ior, 1) := by decide +kernel
theorem dX8_smeltAt_36 : decode cX8_smeltAt 36 = .ok (.istore_n 3, 1) := by decide +kernel
theorem dX8_smeltAt_37 : decode cX8_smeltAt 37 = .ok (.iinc 4 1, 3) := by decide +kernel
theorem dX8_smeltAt_40 : decode cX8_smeltAt 40 = .ok (.goto (-35), 3) := by decide +kernel
theorem dX8_smeltAt_43 : decode cX8_smeltAt 43 = .ok (.iload_n 3, 1) := by decide +kernel
theorem dX8_smeltAt_44 : decode cX8_smeltAt 44 = .ok (.ireturn, 1) := by decide +kernel
theorem dX8_cell_0 : decode cX8_cell 0 = .ok (.aload_n 0, 1) := by decide +kernel
theorem dX8_cell_1 : decode cX8_cell 1 = .ok (.iload_n 1, 1) := by decide +kernel
theorem dX8_cell_2 : decode cX8_cell 2 = .ok (.iload_n 2, 1) := by decide +kernel
theorem dX8_cell_3 : decode cX8_cell 3 = .ok (.invokevirtual 360, 3) := by decide +kernel
theorem dX8_cell_6 : decode cX8_cell 6 = .ok (.ifCond .ne 5, 3) := by decide +kernel
theorem dX8_cell_9 : decode cX8_cell 9 = .ok (.iconst (-1), 1) := by decide +kernel
theorem dX8_cell_10 : decode cX8_cell 10 = .ok (.ireturn, 1) := by decide +kernel
theorem dX8_cell_11 : decode cX8_cell 11 = .ok (.aload_n 0, 1) := by decide +kernel
theorem dX8_cell_12 : decode cX8_cell 12 = .ok (.invokevirtual 397, 3) := by decide +kernel
theorem dX8_cell_15 : decode cX8_cell 15 = .ok (.iload_n 3, 1) := by decide +kernel
theorem dX8_cell_16 : decode cX8_cell 16 = .ok (.tableswitch 114 0 2 #[28, 35, 42], 28) := by decide +kernel
theorem dX8_cell_44 : decode cX8_cell 44 = .ok (.aload_n 0, 1) := by decide +kernel
theorem dX8_cell_45 : decode cX8_cell 45 = .ok (.iload_n 1, 1) := by decide +kernel
theorem dX8_cell_46 : decode cX8_cell 46 = .ok (.iload_n 2, 1) := by decide +kernel
theorem dX8_cell_47 : decode cX8_cell 47 = .ok (.invokevirtual 319, 3) := by decide +kernel
theorem dX8_cell_50 : decode cX8_cell 50 = .ok (.ireturn, 1) := by decide +kernel
theorem dX8_cell_51 : decode cX8_cell 51 = .ok (.aload_n 0, 1) := by decide +kernel
theorem dX8_cell_52 : decode cX8_cell 52 = .ok (.iload_n 1, 1) := by decide +kernel
theorem dX8_cell_53 : decode cX8_cell 53 = .ok (.iload_n 2, 1) := by decide +kernel
theorem dX8_cell_54 : decode cX8_cell 54 = .ok (.invokevirtual 400, 3) := by decide +kernel
theorem dX8_cell_57 : decode cX8_cell 57 = .ok (.ireturn, 1) := by decide +kernel
theorem dX8_cell_58 : decode cX8_cell 58 = .ok (.iconst 0, 1) := by decide +kernel
theorem dX8_cell_59 : decode cX8_cell 59 = .ok (.istore 4, 2) := by decide +kernel
theorem dX8_cell_61 : decode cX8_cell 61 = .ok (.iconst 0, 1) := by decide +kernel
theorem dX8_cell_62 : decode cX8_cell 62 = .ok (.istore 5, 2) := by decide +kernel
theorem dX8_cell_64 : decode cX8_cell 64 = .ok (.iload 5, 2) := by decide +kernel
theorem dX8_cell_66 : decode cX8_cell 66 = .ok (.aload_n 0, 1) := by decide +kernel
theorem dX8_cell_67 : decode cX8_cell 67 = .ok (.getfield 52, 3) := by decide +kernel
theorem dX8_cell_70 : decode cX8_cell 70 = .ok (.aload_n 0, 1) := by decide +kernel
theorem dX8_cell_71 : decode cX8_cell 71 = .ok (.getfield 230, 3) := by decide +kernel
theorem dX8_cell_74 : decode cX8_cell 74 = .ok (.iaload, 1) := by decide +kernel
theorem dX8_cell_75 : decode cX8_cell 75 = .ok (.if_icmp .ge 52, 3) := by decide +kernel
theorem dX8_cell_78 : decode cX8_cell 78 = .ok (.aload_n 0, 1) := by decide +kernel
theorem dX8_cell_79 : decode cX8_cell 79 = .ok (.iload 5, 2) := by decide +kernel
theorem dX8_cell_81 : decode cX8_cell 81 = .ok (.invokevirtual 347, 3) := by decide +kernel
theorem dX8_cell_84 : decode cX8_cell 84 = .ok (.ifCond .eq 37, 3) := by decide +kernel
theorem dX8_cell_87 : decode cX8_cell 87 = .ok (.aload_n 0, 1) := by decide +kernel
theorem dX8_cell_88 : decode cX8_cell 88 = .ok (.getfield 113, 3) := by decide +kernel
theorem dX8_cell_91 : decode cX8_cell 91 = .ok (.iload 5, 2) := by decide +kernel
theorem dX8_cell_93 : decode cX8_cell 93 = .ok (.iaload, 1) := by decide +kernel
theorem dX8_cell_94 : decode cX8_cell 94 = .ok (.iload_n 1, 1) := by decide +kernel
theorem dX8_cell_95 : decode cX8_cell 95 = .ok (.if_icmp .ne 26, 3) := by decide +kernel
theorem dX8_cell_98 : decode cX8_cell 98 = .ok (.aload_n 0, 1) := by decide +kernel
theorem dX8_cell_99 : decode cX8_cell 99 = .ok (.getfield 113, 3) := by decide +kernel
theorem dX8_cell_102 : decode cX8_cell 102 = .ok (.bipush 6, 2) := by decide +kernel
theorem dX8_cell_104 : decode cX8_cell 104 = .ok (.iload 5, 2) := by decide +kernel
theorem dX8_cell_106 : decode cX8_cell 106 = .ok (.iadd, 1) := by decide +kernel
theorem dX8_cell_107 : decode cX8_cell 107 = .ok (.iaload, 1) := by decide +kernel
theorem dX8_cell_108 : decode cX8_cell 108 = .ok (.iload_n 2, 1) := by decide +kernel
theorem dX8_cell_109 : decode cX8_cell 109 = .ok (.if_icmp .ne 12, 3) := by decide +kernel
theorem dX8_cell_112 : decode cX8_cell 112 = .ok (.iload 4, 2) := by decide +kernel
theorem dX8_cell_114 : decode cX8_cell 114 = .ok (.iconst 1, 1) := by decide +kernel
theorem dX8_cell_115 : decode cX8_cell 115 = .ok (.iload 5, 2) := by decide +kernel
theorem dX8_cell_117 : decode cX8_cell 117 = .ok (.ishl, 1) := by decide +kernel
theorem dX8_cell_118 : decode cX8_cell 118 = .ok (.ior, 1) := by decide +kernel
theorem dX8_cell_119 : decode cX8_cell 119 = .ok (.istore 4, 2) := by decide +kernel
theorem dX8_cell_121 : decode cX8_cell 121 = .ok (.iinc 5 1, 3) := by decide +kernel
theorem dX8_cell_124 : decode cX8_cell 124 = .ok (.goto (-60), 3) := by decide +kernel
theorem dX8_cell_127 : decode cX8_cell 127 = .ok (.iload 4, 2) := by decide +kernel
theorem dX8_cell_129 : decode cX8_cell 129 = .ok (.ireturn, 1) := by decide +kernel
theorem dX8_cell_130 : decode cX8_cell 130 = .ok (.iconst (-1), 1) := by decide +kernel
theorem dX8_cell_131 : decode cX8_cell 131 = .ok (.ireturn, 1) := by decide +kernel
theorem dX8_laid_0 : decode cX8_laid 0 = .ok (.aload_n 0, 1) := by decide +kernel
theorem dX8_laid_1 : decode cX8_laid 1 = .ok (.iload_n 1, 1) := by decide +kernel
theorem dX8_laid_2 : decode cX8_laid 2 = .ok (.iload_n 2, 1) := by decide +kernel
theorem dX8_laid_3 : decode cX8_laid 3 = .ok (.invokevirtual 360, 3) := by decide +kernel
theorem dX8_laid_6 : decode cX8_laid 6 = .ok (.ifCond .eq 11, 3) := by decide +kernel
theorem dX8_laid_9 : decode cX8_laid 9 = .ok (.aload_n 0, 1) := by decide +kernel
theorem dX8_laid_10 : decode cX8_laid 10 = .ok (.iload_n 3, 1) := by decide +kernel
theorem dX8_laid_11 : decode cX8_laid 11 = .ok (.invokevirtual 394, 3) := by decide +kernel
theorem dX8_laid_14 : decode cX8_laid 14 = .ok (.ifCond .ne 5, 3) := by decide +kernel
theorem dX8_laid_17 : decode cX8_laid 17 = .ok (.iconst (-1), 1) := by decide +kernel
theorem dX8_laid_18 : decode cX8_laid 18 = .ok (.ireturn, 1) := by decide +kernel
theorem dX8_laid_19 : decode cX8_laid 19 = .ok (.aload_n 0, 1) := by decide +kernel
theorem dX8_laid_20 : decode cX8_laid 20 = .ok (.getfield 110, 3) := by decide +kernel
theorem dX8_laid_23 : decode cX8_laid 23 = .ok (.iload 4, 2) := by decide +kernel
theorem dX8_laid_25 : decode cX8_laid 25 = .ok (.ifCond .eq 9, 3) := by decide +kernel
theorem dX8_laid_28 : decode cX8_laid 28 = .ok (.sipush 272, 3) := by decide +kernel
theorem dX8_laid_31 : decode cX8_laid 31 = .ok (.goto 5, 3) := by decide +kernel
theorem dX8_laid_34 : decode cX8_laid 34 = .ok (.bipush 32, 2) := by decide +kernel
theorem dX8_laid_36 : decode cX8_laid 36 = .ok (.bipush 6, 2) := by decide +kernel
theorem dX8_laid_38 : decode cX8_laid 38 = .ok (.bipush 8, 2) := by decide +kernel
theorem dX8_laid_40 : decode cX8_laid 40 = .ok (.iload_n 2, 1) := by decide +kernel
theorem dX8_laid_41 : decode cX8_laid 41 = .ok (.imul, 1) := by decide +kernel
theorem dX8_laid_42 : decode cX8_laid 42 = .ok (.iload_n 1, 1) := by decide +kernel
theorem dX8_laid_43 : decode cX8_laid 43 = .ok (.iadd, 1) := by decide +kernel
theorem dX8_laid_44 : decode cX8_laid 44 = .ok (.imul, 1) := by decide +kernel
theorem dX8_laid_45 : decode cX8_laid 45 = .ok (.iadd, 1) := by decide +kernel
theorem dX8_laid_46 : decode cX8_laid 46 = .ok (.iload_n 3, 1) := by decide +kernel
theorem dX8_laid_47 : decode cX8_laid 47 = .ok (.iadd, 1) := by decide +kernel
theorem dX8_laid_48 : decode cX8_laid 48 = .ok (.iaload, 1) := by decide +kernel
theorem dX8_laid_49 : decode cX8_laid 49 = .ok (.ireturn, 1) := by decide +kernel
theorem dX8_wind_0 : decode cX8_wind 0 = .ok (.iload_n 1, 1) := by decide +kernel
theorem dX8_wind_1 : decode cX8_wind 1 = .ok (.iconst 0, 1) := by decide +kernel
theorem dX8_wind_2 : decode cX8_wind 2 = .ok (.sipush 999, 3) := by decide +kernel
theorem dX8_wind_5 : decode cX8_wind 5 = .ok (.invokestatic 303, 3) := by decide +kernel
theorem dX8_wind_8 : decode cX8_wind 8 = .ok (.ifCond .eq 11, 3) := by decide +kernel
theorem dX8_wind_11 : decode cX8_wind 11 = .ok (.aload_n 0, 1) := by decide +kernel
theorem dX8_wind_12 : decode cX8_wind 12 = .ok (.iload_n 1, 1) := by decide +kernel
theorem dX8_wind_13 : decode cX8_wind 13 = .ok (.invokevirtual 344, 3) := by decide +kernel
theorem dX8_wind_16 : decode cX8_wind 16 = .ok (.goto 4, 3) := by decide +kernel
theorem dX8_wind_19 : decode cX8_wind 19 = .ok (.iconst (-1), 1) := by decide +kernel
theorem dX8_wind_20 : decode cX8_wind 20 = .ok (.ireturn, 1) := by decide +kernel
theorem dX8_steers_0 : decode cX8_steers 0 = .ok (.aload_n 0, 1) := by decide +kernel
theorem dX8_steers_1 : decode cX8_steers 1 = .ok (.iload_n 1, 1) := by decide +kernel
theorem dX8_steers_2 : decode cX8_steers 2 = .ok (.invokevirtual 394, 3) := by decide +kernel
theorem dX8_steers_5 : decode cX8_steers 5 = .ok (.ifCond .ne 5, 3) := by decide +kernel
theorem dX8_steers_8 : decode cX8_steers 8 = .ok (.iconst (-1), 1) := by decide +kernel
theorem dX8_steers_9 : decode cX8_steers 9 = .ok (.ireturn, 1) := by decide +kernel
theorem dX8_steers_10 : decode cX8_steers 10 = .ok (.aload_n 0, 1) := by decide +kernel
theorem dX8_steers_11 : decode cX8_steers 11 = .ok (.invokevirtual 397, 3) := by decide +kernel
theorem dX8_steers_14 : decode cX8_steers 14 = .ok (.aload_n 0, 1) := by decide +kernel
theorem dX8_steers_15 : decode cX8_steers 15 = .ok (.iload_n 1, 1) := by decide +kernel
theorem dX8_steers_16 : decode cX8_steers 16 = .ok (.invokevirtual 347, 3) := by decide +kernel
theorem dX8_steers_19 : decode cX8_steers 19 = .ok (.ifCond .eq 11, 3) := by decide +kernel
theorem dX8_steers_22 : decode cX8_steers 22 = .ok (.aload_n 0, 1) := by decide +kernel
theorem dX8_steers_23 : decode cX8_steers 23 = .ok (.iload_n 1, 1) := by decide +kernel
theorem dX8_steers_24 : decode cX8_steers 24 = .ok (.invokevirtual 376, 3) := by decide +kernel
theorem dX8_steers_27 : decode cX8_steers 27 = .ok (.goto 5, 3) := by decide +kernel
theorem dX8_steers_30 : decode cX8_steers 30 = .ok (.bipush (-2), 2) := by decide +kernel
theorem dX8_steers_32 : decode cX8_steers 32 = .ok (.ireturn, 1) := by decide +kernel
theorem dX8_keeps_0 : decode cX8_keeps 0 = .ok (.aload_n 0, 1) := by decide +kernel
theorem dX8_keeps_1 : decode cX8_keeps 1 = .ok (.getfield 255, 3) := by decide +kernel
theorem dX8_keeps_4 : decode cX8_keeps 4 = .ok (.bipush 30, 2) := by decide +kernel
theorem dX8_keeps_6 : decode cX8_keeps 6 = .ok (.if_icmp .ne 44, 3) := by decide +kernel
theorem dX8_keeps_9 : decode cX8_keeps 9 = .ok (.iconst 0, 1) := by decide +kernel
theorem dX8_keeps_10 : decode cX8_keeps 10 = .ok (.istore_n 1, 1) := by decide +kernel
theorem dX8_keeps_11 : decode cX8_keeps 11 = .ok (.iload_n 1, 1) := by decide +kernel
theorem dX8_keeps_12 : decode cX8_keeps 12 = .ok (.sipush 14848, 3) := by decide +kernel
theorem dX8_keeps_15 : decode cX8_keeps 15 = .ok (.if_icmp .ge 25, 3) := by decide +kernel
theorem dX8_keeps_18 : decode cX8_keeps 18 = .ok (.aload_n 0, 1) := by decide +kernel
theorem dX8_keeps_19 : decode cX8_keeps 19 = .ok (.getfield 119, 3) := by decide +kernel
theorem dX8_keeps_22 : decode cX8_keeps 22 = .ok (.iload_n 1, 1) := by decide +kernel
theorem dX8_keeps_23 : decode cX8_keeps 23 = .ok (.aload_n 0, 1) := by decide +kernel
theorem dX8_keeps_24 : decode cX8_keeps 24 = .ok (.getfield 119, 3) := by decide +kernel
theorem dX8_keeps_27 : decode cX8_keeps 27 = .ok (.iload_n 1, 1) := by decide +kernel
theorem dX8_keeps_28 : decode cX8_keeps 28 = .ok (.sipush 512, 3) := by decide +kernel
theorem dX8_keeps_31 : decode cX8_keeps 31 = .ok (.iadd, 1) := by decide +kernel
theorem dX8_keeps_32 : decode cX8_keeps 32 = .ok (.iaload, 1) := by decide +kernel
theorem dX8_keeps_33 : decode cX8_keeps 33 = .ok (.iastore, 1) := by decide +kernel
theorem dX8_keeps_34 : decode cX8_keeps 34 = .ok (.iinc 1 1, 3) := by decide +kernel
theorem dX8_keeps_37 : decode cX8_keeps 37 = .ok (.goto (-26), 3) := by decide +kernel
theorem dX8_keeps_40 : decode cX8_keeps 40 = .ok (.aload_n 0, 1) := by decide +kernel
theorem dX8_keeps_41 : decode cX8_keeps 41 = .ok (.dup, 1) := by decide +kernel
theorem dX8_keeps_42 : decode cX8_keeps 42 = .ok (.getfield 255, 3) := by decide +kernel
theorem dX8_keeps_45 : decode cX8_keeps 45 = .ok (.iconst 1, 1) := by decide +kernel
theorem dX8_keeps_46 : decode cX8_keeps 46 = .ok (.isub, 1) := by decide +kernel
theorem dX8_keeps_47 : decode cX8_keeps 47 = .ok (.putfield 255, 3) := by decide +kernel
theorem dX8_keeps_50 : decode cX8_keeps 50 = .ok (.iconst 0, 1) := by decide +kernel
theorem dX8_keeps_51 : decode cX8_keeps 51 = .ok (.istore_n 1, 1) := by decide +kernel
theorem dX8_keeps_52 : decode cX8_keeps 52 = .ok (.iload_n 1, 1) := by decide +kernel
theorem dX8_keeps_53 : decode cX8_keeps 53 = .ok (.sipush 512, 3) := by decide +kernel
theorem dX8_keeps_56 : decode cX8_keeps 56 = .ok (.if_icmp .ge 30, 3) := by decide +kernel
theorem dX8_keeps_59 : decode cX8_keeps 59 = .ok (.aload_n 0, 1) := by decide +kernel
theorem dX8_keeps_60 : decode cX8_keeps 60 = .ok (.getfield 119, 3) := by decide +kernel
theorem dX8_keeps_63 : decode cX8_keeps 63 = .ok (.sipush 512, 3) := by decide +kernel
theorem dX8_keeps_66 : decode cX8_keeps 66 = .ok (.aload_n 0, 1) := by decide +kernel
theorem dX8_keeps_67 : decode cX8_keeps 67 = .ok (.getfield 255, 3) := by decide +kernel
theorem dX8_keeps_70 : decode cX8_keeps 70 = .ok (.imul, 1) := by decide +kernel
theorem dX8_keeps_71 : decode cX8_keeps 71 = .ok (.iload_n 1, 1) := by decide +kernel
theorem dX8_keeps_72 : decode cX8_keeps 72 = .ok (.iadd, 1) := by decide +kernel
theorem dX8_keeps_73 : decode cX8_keeps 73 = .ok (.aload_n 0, 1) := by decide +kernel
theorem dX8_keeps_74 : decode cX8_keeps 74 = .ok (.getfield 110, 3) := by decide +kernel
theorem dX8_keeps_77 : decode cX8_keeps 77 = .ok (.iload_n 1, 1) := by decide +kernel
theorem dX8_keeps_78 : decode cX8_keeps 78 = .ok (.iaload, 1) := by decide +kernel
theorem dX8_keeps_79 : decode cX8_keeps 79 = .ok (.iastore, 1) := by decide +kernel
theorem dX8_keeps_80 : decode cX8_keeps 80 = .ok (.iinc 1 1, 3) := by decide +kernel
theorem dX8_keeps_83 : decode cX8_keeps 83 = .ok (.goto (-31), 3) := by decide +kernel
theorem dX8_keeps_86 : decode cX8_keeps 86 = .ok (.aload_n 0, 1) := by decide +kernel
